abbrev rm_X0_listen : Room := { frames := 3, cells := 0, slots := 0, locals := 103 }
set_option maxHeartbeats 4000000 in
set_option maxRecDepth 100000 in
theorem c_X0_listen (l : Launch) (E : En) (S : St) (S1 : St) (hf : X0_listen S  = some S1) : Mv l E yX0_listen cX0_listen 4 none rm_X0_listen [.ref (E.ad 24), .ref (E.ad 2)] S S1 := by
  refine g_startV (cc := cX0_listen) (n := 4) (by decide) (Nat.le_of_ble_eq_true rfl) ?_
  intro p e s m args below meth c Q H locs C kR hW ls hl
  obtain ⟨⟨hx, hb, hml, hown, hts⟩, hK, hT⟩ := id C
  have hl : lv_has ls 4 [(0, .ref (E.ad 24)), (1, .ref (E.ad 2))] := hl
  have X0_listen_L26_c : ∀ (v2 : Int32) (res : St) (n : Nat) (v3 : Int32) (S : St) (H : Heap) (locs : List Loc) (ls : Array Slot), Ww E S s H locs → lv_has ls 4 [(0, .ref (E.ad 24)), (1, .ref (E.ad 2)), (2, .int v2), (3, .int v3)] → X0_listen_L26 v2 n v3 S = some res → (∀ (T : St) (H : Heap) (locs : List Loc) (ls : Array Slot), some T = some res → Ww E T s H locs → lv_has ls 4 [(0, .ref (E.ad 24)), (1, .ref (E.ad 2)), (2, .int v2)] → W p l e rm_X0_listen s m args below meth c H locs 0 0 Q (F0 m 99 ls [])) → W p l e rm_X0_listen s m args below meth c H locs 0 0 Q (F0 m 26 ls []) := by
    intro v2 res n
    induction n with
    | zero =>
      intro v3 S H locs ls hW hl hf
      cases hf
    | succ n ih =>
      intro v3 S H locs ls hW hl hf kE
      unfold X0_listen_L26 at hf
      refine lv_iload_n hx hb dX0_listen_26 rfl (lv_at hl 3 rfl) ?_
      refine lv_aload_n hx hb dX0_listen_27 rfl (lv_at hl 1 rfl) ?_
      refine g_get (ci := 6) (k := 0) (val := .int (rI S 2 0)) C g_us hW rfl rfl rfl (in_sid _ rfl) (by decide) f_RX0_27 rfl dX0_listen_28 ?_
      refine lv_icmp_ge (tgt := 99) hx hb dX0_listen_31 (by decide) (fun c6 => ?_) (fun c6 => ?_)
      · replace hf := ift_ hf c6
        exact kE _ _ _ _ hf hW (lv_sub hl [0, 1, 2] rfl)
      · replace hf := iff_ hf c6
        refine lv_aload_n hx hb dX0_listen_34 rfl (lv_at hl 1 rfl) ?_
        refine lv_iload_n hx hb dX0_listen_35 rfl (lv_at hl 3 rfl) ?_
        replace hf := bd_so hf
        obtain ⟨x8, h7, hf⟩ := hf
        refine g_callVi (ci := 6) (As := [.int v3]) (rest := []) C g_us hW hl.1 (c_X6_sings l E S v3 _ h7) rfl rfl rfl (in_sid _ rfl) k_RX0_33 rfl ⟨rfl, rfl⟩ ⟨Nat.le_of_ble_eq_true rfl, Nat.le_of_ble_eq_true rfl⟩ ⟨Nat.zero_le _, Nat.zero_le _⟩ _ rfl (Nat.le_of_ble_eq_true rfl) dX0_listen_36 (fun H locs hW => ?_)
        replace hf := bd_so hf
        obtain ⟨S10, h11, hf⟩ := hf
        have J12 : ∀ (H : Heap) (locs : List Loc) (ls : Array Slot), Ww E S10 s H locs → lv_has ls 4 [(0, .ref (E.ad 24)), (1, .ref (E.ad 2)), (2, .int v2), (3, .int v3)] → W p l e rm_X0_listen s m args below meth c H locs 0 0 Q (F0 m 93 ls []) := by
          intro H locs ls hW hl
          refine lv_iinc (v := (v3 + 1)) (lv' := [(3, .int (v3 + 1)), (0, .ref (E.ad 24)), (1, .ref (E.ad 2)), (2, .int v2)]) hx hb dX0_listen_93 hl (k := 3) rfl rfl (by decide) rfl (fun ls hl => ?_)
          refine lv_goto (tgt := 26) hx hb dX0_listen_96 (by decide) ?_
          exact ih _ _ _ _ _ hW (lv_sub hl [1, 2, 3, 0] rfl) hf kE
        clear hf
        have hf := h11
        clear h11
        refine lv_if_eq (tgt := 93) hx hb dX0_listen_39 (by decide) (fun c9 => ?_) (fun c9 => ?_)
        · replace hf := ift_ hf c9
          obtain rfl := so1 hf
          exact J12 _ _ _ hW (lv_sub hl [0, 1, 2, 3] rfl)
        · replace hf := iff_ hf c9
          refine lv_aload_n hx hb dX0_listen_42 rfl (lv_at hl 1 rfl) ?_
          refine lv_iload_n hx hb dX0_listen_43 rfl (lv_at hl 3 rfl) ?_
          refine lv_iload_n hx hb dX0_listen_44 rfl (lv_at hl 2 rfl) ?_
          replace hf := bd_so hf
          obtain ⟨x14, h13, hf⟩ := hf
          refine g_callVi (ci := 6) (As := [.int v3, .int v2]) (rest := []) C g_us hW hl.1 (c_X6_between l E S v3 v2 _ h13) rfl rfl rfl (in_sid _ rfl) k_RX0_37 rfl ⟨rfl, rfl⟩ ⟨Nat.le_of_ble_eq_true rfl, Nat.le_of_ble_eq_true rfl⟩ ⟨Nat.zero_le _, Nat.zero_le _⟩ _ rfl (Nat.le_of_ble_eq_true rfl) dX0_listen_45 (fun H locs hW => ?_)
          refine lv_if_le (tgt := 93) hx hb dX0_listen_48 (by decide) (fun c15 => ?_) (fun c15 => ?_)
          · replace hf := ift_ hf c15
            obtain rfl := so1 hf
            exact J12 _ _ _ hW (lv_sub hl [0, 1, 2, 3] rfl)
          · replace hf := iff_ hf c15
            refine lv_aload_n hx hb dX0_listen_51 rfl (lv_at hl 0 rfl) ?_
            refine g_get (ci := 0) (k := 2) (val := .ref (E.ad 27)) C g_us hW rfl rfl rfl (in_sid _ rfl) (by decide) f_RX0_18 rfl dX0_listen_52 ?_
            refine lv_iload_n hx hb dX0_listen_55 rfl (lv_at hl 2 rfl) ?_
            refine lv_bipush (v := 8) hx hb dX0_listen_56 (by decide) ?_
            refine lv_imul hx hb dX0_listen_58 ?_
            refine lv_aload_n hx hb dX0_listen_59 rfl (lv_at hl 0 rfl) ?_
            refine g_get (ci := 0) (k := 3) (val := .ref (E.ad 28)) C g_us hW rfl rfl rfl (in_sid _ rfl) (by decide) f_RX0_21 rfl dX0_listen_60 ?_
            refine lv_iload_n hx hb dX0_listen_63 rfl (lv_at hl 2 rfl) ?_
            replace hf := bd_so hf
            obtain ⟨x16, h17, hf⟩ := hf
            refine g_iald C hW h17 dX0_listen_64 ?_
            refine lv_iadd hx hb dX0_listen_65 ?_
            refine lv_iload_n hx hb dX0_listen_66 rfl (lv_at hl 3 rfl) ?_
            replace hf := bd_so hf
            obtain ⟨S18, h19, hf⟩ := hf
            refine g_iast C hW h19 dX0_listen_67 (fun H locs hW => ?_)
            refine lv_aload_n hx hb dX0_listen_68 rfl (lv_at hl 0 rfl) ?_
            refine g_get (ci := 0) (k := 3) (val := .ref (E.ad 28)) C g_us hW rfl rfl rfl (in_sid _ rfl) (by decide) f_RX0_21 rfl dX0_listen_69 ?_
            refine lv_iload_n hx hb dX0_listen_72 rfl (lv_at hl 2 rfl) ?_
            refine lv_dup2_11 hx hb dX0_listen_73 rfl rfl ?_
            replace hf := bd_so hf
            obtain ⟨x20, h21, hf⟩ := hf
            refine g_iald C hW h21 dX0_listen_74 ?_
            refine lv_iconst (v := 1) hx hb dX0_listen_75 (by decide) ?_
            refine lv_iadd hx hb dX0_listen_76 ?_
            replace hf := bd_so hf
            obtain ⟨S22, h23, hf⟩ := hf
            refine g_iast C hW h23 dX0_listen_77 (fun H locs hW => ?_)
            refine lv_aload_n hx hb dX0_listen_78 rfl (lv_at hl 0 rfl) ?_
            refine g_get (ci := 0) (k := 4) (val := .ref (E.ad 29)) C g_us hW rfl rfl rfl (in_sid _ rfl) (by decide) f_RX0_24 rfl dX0_listen_79 ?_
            refine lv_iload_n hx hb dX0_listen_82 rfl (lv_at hl 2 rfl) ?_
            refine lv_dup2_11 hx hb dX0_listen_83 rfl rfl ?_
            replace hf := bd_so hf
            obtain ⟨x24, h25, hf⟩ := hf
            refine g_iald C hW h25 dX0_listen_84 ?_
            refine lv_aload_n hx hb dX0_listen_85 rfl (lv_at hl 1 rfl) ?_
            refine lv_iload_n hx hb dX0_listen_86 rfl (lv_at hl 3 rfl) ?_
            refine lv_iload_n hx hb dX0_listen_87 rfl (lv_at hl 2 rfl) ?_
            replace hf := bd_so hf
            obtain ⟨x27, h26, hf⟩ := hf
            refine g_callVi (ci := 6) (As := [.int v3, .int v2]) (rest := [.int x24, .int v2, .ref (E.ad 29)]) C g_us hW hl.1 (c_X6_between l E S22 v3 v2 _ h26) rfl rfl rfl (in_sid _ rfl) k_RX0_37 rfl ⟨rfl, rfl⟩ ⟨Nat.le_of_ble_eq_true rfl, Nat.le_of_ble_eq_true rfl⟩ ⟨Nat.zero_le _, Nat.zero_le _⟩ _ rfl (Nat.le_of_ble_eq_true rfl) dX0_listen_88 (fun H locs hW => ?_)
            refine lv_iadd hx hb dX0_listen_91 ?_
            replace hf := bd_so hf
            obtain ⟨S28, h29, hf⟩ := hf
            refine g_iast C hW h29 dX0_listen_92 (fun H locs hW => ?_)
            obtain rfl := so1 hf
            exact J12 _ _ _ hW (lv_sub hl [0, 1, 2, 3] rfl)
  have X0_listen_L2_c : ∀ (res : St) (n : Nat) (v2 : Int32) (S : St) (H : Heap) (locs : List Loc) (ls : Array Slot), Ww E S s H locs → lv_has ls 4 [(0, .ref (E.ad 24)), (1, .ref (E.ad 2)), (2, .int v2)] → X0_listen_L2  n v2 S = some res → (∀ (T : St) (H : Heap) (locs : List Loc) (ls : Array Slot), some T = some res → Ww E T s H locs → lv_has ls 4 [] → W p l e rm_X0_listen s m args below meth c H locs 0 0 Q (F0 m 105 ls [])) → W p l e rm_X0_listen s m args below meth c H locs 0 0 Q (F0 m 2 ls []) := by
    intro  res n
    induction n with
    | zero =>
      intro v2 S H locs ls hW hl hf
      cases hf
    | succ n ih =>
      intro v2 S H locs ls hW hl hf kE
      unfold X0_listen_L2 at hf
      refine lv_iload_n hx hb dX0_listen_2 rfl (lv_at hl 2 rfl) ?_
      refine lv_aload_n hx hb dX0_listen_3 rfl (lv_at hl 1 rfl) ?_
      refine g_get (ci := 6) (k := 0) (val := .int (rI S 2 0)) C g_us hW rfl rfl rfl (in_sid _ rfl) (by decide) f_RX0_27 rfl dX0_listen_4 ?_
      refine lv_icmp_ge (tgt := 105) hx hb dX0_listen_7 (by decide) (fun c1 => ?_) (fun c1 => ?_)
      · replace hf := ift_ hf c1
        exact kE _ _ _ _ hf hW (lv_sub hl [] rfl)
      · replace hf := iff_ hf c1
        refine lv_aload_n hx hb dX0_listen_10 rfl (lv_at hl 0 rfl) ?_
        refine g_get (ci := 0) (k := 3) (val := .ref (E.ad 28)) C g_us hW rfl rfl rfl (in_sid _ rfl) (by decide) f_RX0_21 rfl dX0_listen_11 ?_
        refine lv_iload_n hx hb dX0_listen_14 rfl (lv_at hl 2 rfl) ?_
        refine lv_iconst (v := 0) hx hb dX0_listen_15 (by decide) ?_
        replace hf := bd_so hf
        obtain ⟨S2, h3, hf⟩ := hf
        refine g_iast C hW h3 dX0_listen_16 (fun H locs hW => ?_)
        refine lv_aload_n hx hb dX0_listen_17 rfl (lv_at hl 0 rfl) ?_
        refine g_get (ci := 0) (k := 4) (val := .ref (E.ad 29)) C g_us hW rfl rfl rfl (in_sid _ rfl) (by decide) f_RX0_24 rfl dX0_listen_18 ?_
        refine lv_iload_n hx hb dX0_listen_21 rfl (lv_at hl 2 rfl) ?_
        refine lv_iconst (v := 0) hx hb dX0_listen_22 (by decide) ?_
        replace hf := bd_so hf
        obtain ⟨S4, h5, hf⟩ := hf
        refine g_iast C hW h5 dX0_listen_23 (fun H locs hW => ?_)
        refine lv_iconst (v := 0) hx hb dX0_listen_24 (by decide) ?_
        refine lv_istore_n (lv' := [(3, .int 0), (0, .ref (E.ad 24)), (1, .ref (E.ad 2)), (2, .int v2)]) hx hb dX0_listen_25 rfl hl (by decide) rfl (fun ls hl => ?_)
        replace hf := bd_so hf
        obtain ⟨S30, h31, hf⟩ := hf
        have J32 : ∀ (H : Heap) (locs : List Loc) (ls : Array Slot), Ww E S30 s H locs → lv_has ls 4 [(0, .ref (E.ad 24)), (1, .ref (E.ad 2)), (2, .int v2)] → W p l e rm_X0_listen s m args below meth c H locs 0 0 Q (F0 m 99 ls []) := by
          intro H locs ls hW hl
          refine lv_iinc (v := (v2 + 1)) (lv' := [(2, .int (v2 + 1)), (0, .ref (E.ad 24)), (1, .ref (E.ad 2))]) hx hb dX0_listen_99 hl (k := 2) rfl rfl (by decide) rfl (fun ls hl => ?_)
          refine lv_goto (tgt := 2) hx hb dX0_listen_102 (by decide) ?_
          exact ih _ _ _ _ _ hW (lv_sub hl [1, 2, 0] rfl) hf kE
        exact X0_listen_L26_c _ _ FU _ _ _ _ _ hW (lv_sub hl [1, 2, 3, 0] rfl) h31 (fun _ H locs ls e hW hl => by cases e; exact J32 H locs ls hW hl)
  unfold X0_listen at hf
  refine lv_iconst (v := 0) hx hb dX0_listen_0 (by decide) ?_
  refine lv_istore_n (lv' := [(2, .int 0), (0, .ref (E.ad 24)), (1, .ref (E.ad 2))]) hx hb dX0_listen_1 rfl hl (by decide) rfl (fun ls hl => ?_)
  replace hf := bd_so hf
  obtain ⟨S33, h34, hf⟩ := hf
  have J35 : ∀ (H : Heap) (locs : List Loc) (ls : Array Slot), Ww E S33 s H locs → lv_has ls 4 [] → W p l e rm_X0_listen s m args below meth c H locs 0 0 Q (F0 m 105 ls []) := by
    intro H locs ls hW hl
    obtain rfl := so1 hf
    exact kR _ _ _ _ hW dX0_listen_105
  exact X0_listen_L2_c _ FU _ _ _ _ _ hW (lv_sub hl [1, 2, 0] rfl) h34 (fun _ H locs ls e hW hl => by cases e; exact J35 H locs ls hW hl)

abbrev rm_X0_stretchWires : Room := { frames := 1, cells := 0, slots := 0, locals := 60 }
set_option maxHeartbeats 4000000 in
set_option maxRecDepth 100000 in
theorem c_X0_stretchWires (l : Launch) (E : En) (S : St) (a2 : Int32) (S1 : St) (hf : X0_stretchWires S a2 = some S1) : Mv l E yX0_stretchWires cX0_stretchWires 4 none rm_X0_stretchWires [.ref (E.ad 24), .ref (E.ad 2), .int a2] S S1 := by
  refine g_startV (cc := cX0_stretchWires) (n := 4) (by decide) (Nat.le_of_ble_eq_true rfl) ?_
  intro p e s m args below meth c Q H locs C kR hW ls hl
  obtain ⟨⟨hx, hb, hml, hown, hts⟩, hK, hT⟩ := id C
  have hl : lv_has ls 4 [(0, .ref (E.ad 24)), (1, .ref (E.ad 2)), (2, .int a2)] := hl
  have X0_stretchWires_L2_c : ∀ (v2 : Int32) (res : St) (n : Nat) (v3 : Int32) (S : St) (H : Heap) (locs : List Loc) (ls : Array Slot), Ww E S s H locs → lv_has ls 4 [(0, .ref (E.ad 24)), (1, .ref (E.ad 2)), (2, .int v2), (3, .int v3)] → X0_stretchWires_L2 v2 n v3 S = some res → (∀ (T : St) (H : Heap) (locs : List Loc) (ls : Array Slot), some T = some res → Ww E T s H locs → lv_has ls 4 [] → W p l e rm_X0_stretchWires s m args below meth c H locs 0 0 Q (F0 m 30 ls [])) → W p l e rm_X0_stretchWires s m args below meth c H locs 0 0 Q (F0 m 2 ls []) := by
    intro v2 res n
    induction n with
    | zero =>
      intro v3 S H locs ls hW hl hf
      cases hf
    | succ n ih =>
      intro v3 S H locs ls hW hl hf kE
      unfold X0_stretchWires_L2 at hf
      refine lv_iload_n hx hb dX0_stretchWires_2 rfl (lv_at hl 3 rfl) ?_
      refine lv_aload_n hx hb dX0_stretchWires_3 rfl (lv_at hl 1 rfl) ?_
      refine g_get (ci := 6) (k := 0) (val := .int (rI S 2 0)) C g_us hW rfl rfl rfl (in_sid _ rfl) (by decide) f_RX0_27 rfl dX0_stretchWires_4 ?_
      refine lv_icmp_ge (tgt := 30) hx hb dX0_stretchWires_7 (by decide) (fun c1 => ?_) (fun c1 => ?_)
      · replace hf := ift_ hf c1
        exact kE _ _ _ _ hf hW (lv_sub hl [] rfl)
      · replace hf := iff_ hf c1
        refine lv_aload_n hx hb dX0_stretchWires_10 rfl (lv_at hl 0 rfl) ?_
        refine g_get (ci := 0) (k := 4) (val := .ref (E.ad 29)) C g_us hW rfl rfl rfl (in_sid _ rfl) (by decide) f_RX0_24 rfl dX0_stretchWires_11 ?_
        refine lv_iload_n hx hb dX0_stretchWires_14 rfl (lv_at hl 3 rfl) ?_
        refine lv_aload_n hx hb dX0_stretchWires_15 rfl (lv_at hl 0 rfl) ?_
        refine g_get (ci := 0) (k := 3) (val := .ref (E.ad 28)) C g_us hW rfl rfl rfl (in_sid _ rfl) (by decide) f_RX0_21 rfl dX0_stretchWires_16 ?_
        refine lv_iload_n hx hb dX0_stretchWires_19 rfl (lv_at hl 3 rfl) ?_
        replace hf := bd_so hf
        obtain ⟨x2, h3, hf⟩ := hf
        refine g_iald C hW h3 dX0_stretchWires_20 ?_
        refine lv_iload_n hx hb dX0_stretchWires_21 rfl (lv_at hl 2 rfl) ?_
        refine lv_imul hx hb dX0_stretchWires_22 ?_
        replace hf := bd_so hf
        obtain ⟨S4, h5, hf⟩ := hf
        refine g_iast C hW h5 dX0_stretchWires_23 (fun H locs hW => ?_)
        refine lv_iinc (v := (v3 + 1)) (lv' := [(3, .int (v3 + 1)), (0, .ref (E.ad 24)), (1, .ref (E.ad 2)), (2, .int v2)]) hx hb dX0_stretchWires_24 hl (k := 3) rfl rfl (by decide) rfl (fun ls hl => ?_)
        refine lv_goto (tgt := 2) hx hb dX0_stretchWires_27 (by decide) ?_
        exact ih _ _ _ _ _ hW (lv_sub hl [1, 2, 3, 0] rfl) hf kE
  unfold X0_stretchWires at hf
  refine lv_iconst (v := 0) hx hb dX0_stretchWires_0 (by decide) ?_
  refine lv_istore_n (lv' := [(3, .int 0), (0, .ref (E.ad 24)), (1, .ref (E.ad 2)), (2, .int a2)]) hx hb dX0_stretchWires_1 rfl hl (by decide) rfl (fun ls hl => ?_)
  replace hf := bd_so hf
  obtain ⟨S6, h7, hf⟩ := hf
  have J8 : ∀ (H : Heap) (locs : List Loc) (ls : Array Slot), Ww E S6 s H locs → lv_has ls 4 [] → W p l e rm_X0_stretchWires s m args below meth c H locs 0 0 Q (F0 m 30 ls []) := by
    intro H locs ls hW hl
    obtain rfl := so1 hf
    exact kR _ _ _ _ hW dX0_stretchWires_30
  exact X0_stretchWires_L2_c _ _ FU _ _ _ _ _ hW (lv_sub hl [1, 2, 3, 0] rfl) h7 (fun _ H locs ls e hW hl => by cases e; exact J8 H locs ls hW hl)

abbrev rm_X0_meanLag : Room := { frames := 1, cells := 0, slots := 0, locals := 60 }
set_option maxHeartbeats 4000000 in
set_option maxRecDepth 100000 in
theorem c_X0_meanLag (l : Launch) (E : En) (S : St) (a1 : Int32) (a2 : Int32) (r : Int32) (hf : X0_meanLag S a1 a2 = some r) : Mi l E yX0_meanLag cX0_meanLag 6 (some .int) rm_X0_meanLag [.ref (E.ad 24), .int a1, .int a2] S r S := by
  refine g_startI (cc := cX0_meanLag) (n := 6) (by decide) (Nat.le_of_ble_eq_true rfl) ?_
  intro p e s m args below meth c Q H locs C kR hW ls hl
  obtain ⟨⟨hx, hb, hml, hown, hts⟩, hK, hT⟩ := id C
  have hl : lv_has ls 6 [(0, .ref (E.ad 24)), (1, .int a1), (2, .int a2)] := hl
  have X0_meanLag_L35_c : ∀ (S : St) (v1 : Int32) (v3 : Int32) (res : Int32) (n : Nat) (v4 : Int32) (v5 : Int32) (H : Heap) (locs : List Loc) (ls : Array Slot), Ww E S s H locs → lv_has ls 6 [(0, .ref (E.ad 24)), (1, .int v1), (3, .int v3), (4, .int v4), (5, .int v5)] → X0_meanLag_L35 S v1 v3 n v4 v5 = some res → (∀ (w4 : Int32) (H : Heap) (locs : List Loc) (ls : Array Slot), some w4 = some res → Ww E S s H locs → lv_has ls 6 [(3, .int v3), (4, .int w4)] → W p l e rm_X0_meanLag s m args below meth c H locs 0 0 Q (F0 m 69 ls [])) → W p l e rm_X0_meanLag s m args below meth c H locs 0 0 Q (F0 m 35 ls []) := by
    intro S v1 v3 res n
    induction n with
    | zero =>
      intro v4 v5 H locs ls hW hl hf
      cases hf
    | succ n ih =>
      intro v4 v5 H locs ls hW hl hf kE
      unfold X0_meanLag_L35 at hf
      refine lv_iload hx hb dX0_meanLag_35 (lv_at hl 4 rfl) ?_
      refine lv_iload_n hx hb dX0_meanLag_37 rfl (lv_at hl 2 rfl) ?_
      refine lv_icmp_ge (tgt := 69) hx hb dX0_meanLag_38 (by decide) (fun c8 => ?_) (fun c8 => ?_)
      · replace hf := ift_ hf c8
        exact kE _ _ _ _ hf hW (lv_sub hl [2, 3] rfl)
      · replace hf := iff_ hf c8
        refine lv_iload hx hb dX0_meanLag_41 (lv_at hl 3 rfl) ?_
        refine lv_aload_n hx hb dX0_meanLag_43 rfl (lv_at hl 0 rfl) ?_
        refine g_get (ci := 0) (k := 1) (val := .ref (E.ad (rR S 24 1))) C g_us hW rfl rfl rfl (in_sid _ rfl) (by decide) f_RX0_15 rfl dX0_meanLag_44 ?_
        refine lv_aload_n hx hb dX0_meanLag_47 rfl (lv_at hl 0 rfl) ?_
        refine g_get (ci := 0) (k := 2) (val := .ref (E.ad 27)) C g_us hW rfl rfl rfl (in_sid _ rfl) (by decide) f_RX0_18 rfl dX0_meanLag_48 ?_
        refine lv_iload_n hx hb dX0_meanLag_51 rfl (lv_at hl 1 rfl) ?_
        refine lv_bipush (v := 8) hx hb dX0_meanLag_52 (by decide) ?_
        refine lv_imul hx hb dX0_meanLag_54 ?_
        refine lv_iload hx hb dX0_meanLag_55 (lv_at hl 4 rfl) ?_
        refine lv_iadd hx hb dX0_meanLag_57 ?_
        replace hf := bd_so hf
        obtain ⟨x9, h10, hf⟩ := hf
        refine g_iald C hW h10 dX0_meanLag_58 ?_
        replace hf := bd_so hf
        obtain ⟨x11, h12, hf⟩ := hf
        refine g_iald C hW h12 dX0_meanLag_59 ?_
        refine lv_iadd hx hb dX0_meanLag_60 ?_
        refine lv_istore (lv' := [(4, .int (v4 + x11)), (0, .ref (E.ad 24)), (1, .int v1), (3, .int v3), (5, .int v5)]) hx hb dX0_meanLag_61 hl (by decide) rfl (fun ls hl => ?_)
        refine lv_iinc (v := (v5 + 1)) (lv' := [(5, .int (v5 + 1)), (4, .int (v4 + x11)), (0, .ref (E.ad 24)), (1, .int v1), (3, .int v3)]) hx hb dX0_meanLag_63 hl (k := 4) rfl rfl (by decide) rfl (fun ls hl => ?_)
        refine lv_goto (tgt := 35) hx hb dX0_meanLag_66 (by decide) ?_
        exact ih _ _ _ _ _ hW (lv_sub hl [2, 3, 4, 1, 0] rfl) hf kE
  unfold X0_meanLag at hf
  refine lv_aload_n hx hb dX0_meanLag_0 rfl (lv_at hl 0 rfl) ?_
  refine g_get (ci := 0) (k := 3) (val := .ref (E.ad 28)) C g_us hW rfl rfl rfl (in_sid _ rfl) (by decide) f_RX0_21 rfl dX0_meanLag_1 ?_
  refine lv_iload_n hx hb dX0_meanLag_4 rfl (lv_at hl 1 rfl) ?_
  replace hf := bd_so hf
  obtain ⟨x1, h2, hf⟩ := hf
  refine g_iald C hW h2 dX0_meanLag_5 ?_
  refine lv_istore_n (lv' := [(3, .int x1), (0, .ref (E.ad 24)), (1, .int a1), (2, .int a2)]) hx hb dX0_meanLag_6 rfl hl (by decide) rfl (fun ls hl => ?_)
  refine lv_iload_n hx hb dX0_meanLag_7 rfl (lv_at hl 0 rfl) ?_
  refine lv_if_ne (tgt := 13) hx hb dX0_meanLag_8 (by decide) (fun c3 => ?_) (fun c3 => ?_)
  · replace hf := iff_ hf c3
    refine lv_aload_n hx hb dX0_meanLag_13 rfl (lv_at hl 1 rfl) ?_
    refine g_get (ci := 0) (k := 4) (val := .ref (E.ad 29)) C g_us hW rfl rfl rfl (in_sid _ rfl) (by decide) f_RX0_24 rfl dX0_meanLag_14 ?_
    refine lv_iload_n hx hb dX0_meanLag_17 rfl (lv_at hl 2 rfl) ?_
    replace hf := bd_so hf
    obtain ⟨x4, h5, hf⟩ := hf
    refine g_iald C hW h5 dX0_meanLag_18 ?_
    refine lv_iload_n hx hb dX0_meanLag_19 rfl (lv_at hl 0 rfl) ?_
    refine lv_aload_n hx hb dX0_meanLag_20 rfl (lv_at hl 1 rfl) ?_
    refine g_get (ci := 0) (k := 1) (val := .ref (E.ad (rR S 24 1))) C g_us hW rfl rfl rfl (in_sid _ rfl) (by decide) f_RX0_15 rfl dX0_meanLag_21 ?_
    refine lv_iload_n hx hb dX0_meanLag_24 rfl (lv_at hl 2 rfl) ?_
    replace hf := bd_so hf
    obtain ⟨x6, h7, hf⟩ := hf
    refine g_iald C hW h7 dX0_meanLag_25 ?_
    refine lv_iload_n hx hb dX0_meanLag_26 rfl (lv_at hl 3 rfl) ?_
    refine lv_iadd hx hb dX0_meanLag_27 ?_
    refine lv_imul hx hb dX0_meanLag_28 ?_
    refine lv_isub hx hb dX0_meanLag_29 ?_
    refine lv_istore (lv' := [(4, .int (x4 - (x1 * (x6 + a2)))), (3, .int x1), (0, .ref (E.ad 24)), (1, .int a1), (2, .int a2)]) hx hb dX0_meanLag_30 hl (by decide) rfl (fun ls hl => ?_)
    refine lv_iconst (v := 0) hx hb dX0_meanLag_32 (by decide) ?_
    refine lv_istore (lv' := [(5, .int 0), (4, .int (x4 - (x1 * (x6 + a2)))), (3, .int x1), (0, .ref (E.ad 24)), (1, .int a1), (2, .int a2)]) hx hb dX0_meanLag_33 hl (by decide) rfl (fun ls hl => ?_)
    replace hf := bd_so hf
    obtain ⟨x13, h14, hf⟩ := hf
    have J17 : ∀ (H : Heap) (locs : List Loc) (ls : Array Slot), Ww E S s H locs → lv_has ls 6 [(3, .int x1), (4, .int x13)] → W p l e rm_X0_meanLag s m args below meth c H locs 0 0 Q (F0 m 69 ls []) := by
      intro H locs ls hW hl
      refine lv_iload hx hb dX0_meanLag_69 (lv_at hl 1 rfl) ?_
      refine lv_iload_n hx hb dX0_meanLag_71 rfl (lv_at hl 0 rfl) ?_
      replace hf := bd_so hf
      obtain ⟨x15, h16, hf⟩ := hf
      refine g_idiv C h16 dX0_meanLag_72 ?_
      obtain rfl := so1 hf
      exact kR _ _ _ _ hW dX0_meanLag_73
    exact X0_meanLag_L35_c _ _ _ _ FU _ _ _ _ _ hW (lv_sub hl [3, 4, 2, 1, 0] rfl) h14 (fun _ H locs ls e hW hl => by cases e; exact J17 H locs ls hW hl)
  · replace hf := ift_ hf c3
    refine lv_iconst (v := 0) hx hb dX0_meanLag_11 (by decide) ?_
    obtain rfl := so1 hf
    exact kR _ _ _ _ hW dX0_meanLag_12

abbrev rm_X0_timeAt : Room := { frames := 2, cells := 0, slots := 0, locals := 85 }
set_option maxHeartbeats 4000000 in
set_option maxRecDepth 100000 in
theorem c_X0_timeAt (l : Launch) (E : En) (S : St) (a2 : Int32) (a3 : Int32) (r : Int32) (hf : X0_timeAt S a2 a3 = some r) : Mi l E yX0_timeAt cX0_timeAt 8 (some .int) rm_X0_timeAt [.ref (E.ad 24), .ref (E.ad 2), .int a2, .int a3] S r S := by
  refine g_startI (cc := cX0_timeAt) (n := 8) (by decide) (Nat.le_of_ble_eq_true rfl) ?_
  intro p e s m args below meth c Q H locs C kR hW ls hl
  obtain ⟨⟨hx, hb, hml, hown, hts⟩, hK, hT⟩ := id C
  have hl : lv_has ls 8 [(0, .ref (E.ad 24)), (1, .ref (E.ad 2)), (2, .int a2), (3, .int a3)] := hl
  unfold X0_timeAt at hf
  refine lv_aload_n hx hb dX0_timeAt_0 rfl (lv_at hl 1 rfl) ?_
  refine lv_iload_n hx hb dX0_timeAt_1 rfl (lv_at hl 2 rfl) ?_
  refine lv_iconst (v := 0) hx hb dX0_timeAt_2 (by decide) ?_
  replace hf := bd_so hf
  obtain ⟨x2, h1, hf⟩ := hf
  refine g_callVi (ci := 6) (As := [.int a2, .int 0]) (rest := []) C g_us hW hl.1 (c_X6_value l E S a2 0 _ h1) rfl rfl rfl (in_sid _ rfl) k_RX0_41 rfl ⟨rfl, rfl⟩ ⟨Nat.le_of_ble_eq_true rfl, Nat.le_of_ble_eq_true rfl⟩ ⟨Nat.zero_le _, Nat.zero_le _⟩ _ rfl (Nat.le_of_ble_eq_true rfl) dX0_timeAt_3 (fun H locs hW => ?_)
  refine lv_istore (lv' := [(4, .int x2), (0, .ref (E.ad 24)), (1, .ref (E.ad 2)), (2, .int a2), (3, .int a3)]) hx hb dX0_timeAt_6 hl (by decide) rfl (fun ls hl => ?_)
  refine lv_iload hx hb dX0_timeAt_8 (lv_at hl 0 rfl) ?_
  refine lv_iconst (v := 1) hx hb dX0_timeAt_10 (by decide) ?_
  refine lv_icmp_ne (tgt := 21) hx hb dX0_timeAt_11 (by decide) (fun c3 => ?_) (fun c3 => ?_)
  · replace hf := iff_ hf c3
    refine lv_iload hx hb dX0_timeAt_21 (lv_at hl 0 rfl) ?_
    refine lv_iconst (v := 2) hx hb dX0_timeAt_23 (by decide) ?_
    refine lv_icmp_ne (tgt := 41) hx hb dX0_timeAt_24 (by decide) (fun c4 => ?_) (fun c4 => ?_)
    · replace hf := iff_ hf c4
      refine lv_aload_n hx hb dX0_timeAt_41 rfl (lv_at hl 1 rfl) ?_
      refine g_get (ci := 0) (k := 1) (val := .ref (E.ad (rR S 24 1))) C g_us hW rfl rfl rfl (in_sid _ rfl) (by decide) f_RX0_15 rfl dX0_timeAt_42 ?_
      refine lv_iload_n hx hb dX0_timeAt_45 rfl (lv_at hl 3 rfl) ?_
      replace hf := bd_so hf
      obtain ⟨x5, h6, hf⟩ := hf
      refine g_iald C hW h6 dX0_timeAt_46 ?_
      refine lv_istore (lv' := [(5, .int x5), (4, .int x2), (0, .ref (E.ad 24)), (1, .ref (E.ad 2)), (2, .int a2), (3, .int a3)]) hx hb dX0_timeAt_47 hl (by decide) rfl (fun ls hl => ?_)
      refine lv_aload_n hx hb dX0_timeAt_49 rfl (lv_at hl 2 rfl) ?_
      refine lv_iload_n hx hb dX0_timeAt_50 rfl (lv_at hl 4 rfl) ?_
      refine lv_iload hx hb dX0_timeAt_51 (lv_at hl 1 rfl) ?_
      refine lv_iconst (v := 3) hx hb dX0_timeAt_53 (by decide) ?_
      replace hf := bd_so hf
      obtain ⟨x8, h9, hf⟩ := hf
      have J10 : ∀ (H : Heap) (locs : List Loc) (ls : Array Slot), Ww E S s H locs → lv_has ls 8 [(1, .ref (E.ad 2)), (2, .int a2), (5, .int x5)] → W p l e rm_X0_timeAt s m args below meth c H locs 0 0 Q (F0 m 67 ls [.int x8, .int a2, .ref (E.ad 24)]) := by
        intro H locs ls hW hl
        replace hf := bd_so hf
        obtain ⟨x12, h11, hf⟩ := hf
        refine g_callVi (ci := 0) (As := [.int a2, .int x8]) (rest := []) C g_us hW hl.1 (c_X0_meanLag l E S a2 x8 _ h11) rfl rfl rfl (in_sid _ rfl) k_RX0_51 rfl ⟨rfl, rfl⟩ ⟨Nat.le_of_ble_eq_true rfl, Nat.le_of_ble_eq_true rfl⟩ ⟨Nat.zero_le _, Nat.zero_le _⟩ _ rfl (Nat.le_of_ble_eq_true rfl) dX0_timeAt_67 (fun H locs hW => ?_)
        refine lv_istore (lv' := [(6, .int x12), (1, .ref (E.ad 2)), (2, .int a2), (5, .int x5)]) hx hb dX0_timeAt_70 hl (by decide) rfl (fun ls hl => ?_)
        refine lv_aload_n hx hb dX0_timeAt_72 rfl (lv_at hl 1 rfl) ?_
        refine lv_iload_n hx hb dX0_timeAt_73 rfl (lv_at hl 2 rfl) ?_
        refine lv_iconst (v := 2) hx hb dX0_timeAt_74 (by decide) ?_
        replace hf := bd_so hf
        obtain ⟨x14, h13, hf⟩ := hf
        refine g_callVi (ci := 6) (As := [.int a2, .int 2]) (rest := []) C g_us hW hl.1 (c_X6_value l E S a2 2 _ h13) rfl rfl rfl (in_sid _ rfl) k_RX0_41 rfl ⟨rfl, rfl⟩ ⟨Nat.le_of_ble_eq_true rfl, Nat.le_of_ble_eq_true rfl⟩ ⟨Nat.zero_le _, Nat.zero_le _⟩ _ rfl (Nat.le_of_ble_eq_true rfl) dX0_timeAt_75 (fun H locs hW => ?_)
        refine lv_iload hx hb dX0_timeAt_78 (lv_at hl 0 rfl) ?_
        refine lv_imul hx hb dX0_timeAt_80 ?_
        refine lv_bipush (v := 100) hx hb dX0_timeAt_81 (by decide) ?_
        replace hf := bd_so hf
        obtain ⟨x15, h16, hf⟩ := hf
        refine g_idiv C h16 dX0_timeAt_83 ?_
        refine lv_istore (lv' := [(7, .int x15), (6, .int x12), (1, .ref (E.ad 2)), (2, .int a2), (5, .int x5)]) hx hb dX0_timeAt_84 hl (by decide) rfl (fun ls hl => ?_)
        refine lv_iload hx hb dX0_timeAt_86 (lv_at hl 4 rfl) ?_
        refine lv_iconst (v := 1) hx hb dX0_timeAt_88 (by decide) ?_
        refine lv_iadd hx hb dX0_timeAt_89 ?_
        refine lv_iload hx hb dX0_timeAt_90 (lv_at hl 4 rfl) ?_
        refine lv_aload_n hx hb dX0_timeAt_92 rfl (lv_at hl 2 rfl) ?_
        refine g_get (ci := 6) (k := 1) (val := .int (rI S 2 1)) C g_us hW rfl rfl rfl (in_sid _ rfl) (by decide) f_RX0_48 rfl dX0_timeAt_93 ?_
        refine lv_iadd hx hb dX0_timeAt_96 ?_
        refine lv_aload_n hx hb dX0_timeAt_97 rfl (lv_at hl 2 rfl) ?_
        refine lv_iload_n hx hb dX0_timeAt_98 rfl (lv_at hl 3 rfl) ?_
        refine lv_iconst (v := 1) hx hb dX0_timeAt_99 (by decide) ?_
        replace hf := bd_so hf
        obtain ⟨x18, h17, hf⟩ := hf
        refine g_callVi (ci := 6) (As := [.int a2, .int 1]) (rest := [.int (x5 + (rI S 2 1)), .int (x5 + 1)]) C g_us hW hl.1 (c_X6_value l E S a2 1 _ h17) rfl rfl rfl (in_sid _ rfl) k_RX0_41 rfl ⟨rfl, rfl⟩ ⟨Nat.le_of_ble_eq_true rfl, Nat.le_of_ble_eq_true rfl⟩ ⟨Nat.zero_le _, Nat.zero_le _⟩ _ rfl (Nat.le_of_ble_eq_true rfl) dX0_timeAt_100 (fun H locs hW => ?_)
        refine lv_iadd hx hb dX0_timeAt_103 ?_
        refine lv_iload hx hb dX0_timeAt_104 (lv_at hl 0 rfl) ?_
        refine lv_iadd hx hb dX0_timeAt_106 ?_
        refine g_max C g_us hl.1 k_RX0_54 (Nat.le_of_ble_eq_true rfl) (Nat.le_of_ble_eq_true rfl) ⟨Nat.zero_le _, Nat.zero_le _⟩ dX0_timeAt_107 ?_
        obtain rfl := so1 hf
        exact kR _ _ _ _ hW dX0_timeAt_110
      clear hf
      have hf := h9
      clear h9
      refine lv_icmp_ne (tgt := 66) hx hb dX0_timeAt_54 (by decide) (fun c7 => ?_) (fun c7 => ?_)
      · replace hf := iff_ hf c7
        refine lv_iconst (v := 0) hx hb dX0_timeAt_66 (by decide) ?_
        obtain rfl := so1 hf
        exact J10 _ _ _ hW (lv_sub hl [3, 4, 0] rfl)
      · replace hf := ift_ hf c7
        refine lv_aload_n hx hb dX0_timeAt_57 rfl (lv_at hl 3 rfl) ?_
        refine lv_iload_n hx hb dX0_timeAt_58 rfl (lv_at hl 4 rfl) ?_
        refine lv_iconst (v := 4) hx hb dX0_timeAt_59 (by decide) ?_
        replace hf := bd_so hf
        obtain ⟨x20, h19, hf⟩ := hf
        refine g_callVi (ci := 6) (As := [.int a2, .int 4]) (rest := [.int a2, .ref (E.ad 24)]) C g_us hW hl.1 (c_X6_value l E S a2 4 _ h19) rfl rfl rfl (in_sid _ rfl) k_RX0_41 rfl ⟨rfl, rfl⟩ ⟨Nat.le_of_ble_eq_true rfl, Nat.le_of_ble_eq_true rfl⟩ ⟨Nat.zero_le _, Nat.zero_le _⟩ _ rfl (Nat.le_of_ble_eq_true rfl) dX0_timeAt_60 (fun H locs hW => ?_)
        refine lv_goto (tgt := 67) hx hb dX0_timeAt_63 (by decide) ?_
        obtain rfl := so1 hf
        exact J10 _ _ _ hW (lv_sub hl [3, 4, 0] rfl)
    · replace hf := ift_ hf c4
      refine lv_iload_n hx hb dX0_timeAt_27 rfl (lv_at hl 4 rfl) ?_
      refine lv_aload_n hx hb dX0_timeAt_28 rfl (lv_at hl 2 rfl) ?_
      refine g_get (ci := 6) (k := 1) (val := .int (rI S 2 1)) C g_us hW rfl rfl rfl (in_sid _ rfl) (by decide) f_RX0_48 rfl dX0_timeAt_29 ?_
      refine lv_imul hx hb dX0_timeAt_32 ?_
      refine lv_aload_n hx hb dX0_timeAt_33 rfl (lv_at hl 2 rfl) ?_
      refine lv_iload_n hx hb dX0_timeAt_34 rfl (lv_at hl 3 rfl) ?_
      refine lv_iconst (v := 3) hx hb dX0_timeAt_35 (by decide) ?_
      replace hf := bd_so hf
      obtain ⟨x22, h21, hf⟩ := hf
      refine g_callVi (ci := 6) (As := [.int a2, .int 3]) (rest := [.int (a3 * (rI S 2 1))]) C g_us hW hl.1 (c_X6_value l E S a2 3 _ h21) rfl rfl rfl (in_sid _ rfl) k_RX0_41 rfl ⟨rfl, rfl⟩ ⟨Nat.le_of_ble_eq_true rfl, Nat.le_of_ble_eq_true rfl⟩ ⟨Nat.zero_le _, Nat.zero_le _⟩ _ rfl (Nat.le_of_ble_eq_true rfl) dX0_timeAt_36 (fun H locs hW => ?_)
      refine lv_isub hx hb dX0_timeAt_39 ?_
      obtain rfl := so1 hf
      exact kR _ _ _ _ hW dX0_timeAt_40
  · replace hf := ift_ hf c3
    refine lv_iload_n hx hb dX0_timeAt_14 rfl (lv_at hl 4 rfl) ?_
    refine lv_aload_n hx hb dX0_timeAt_15 rfl (lv_at hl 2 rfl) ?_
    refine g_get (ci := 6) (k := 1) (val := .int (rI S 2 1)) C g_us hW rfl rfl rfl (in_sid _ rfl) (by decide) f_RX0_48 rfl dX0_timeAt_16 ?_
    refine lv_imul hx hb dX0_timeAt_19 ?_
    obtain rfl := so1 hf
    exact kR _ _ _ _ hW dX0_timeAt_20

abbrev rm_X0_singTo : Room := { frames := 3, cells := 0, slots := 0, locals := 112 }
set_option maxHeartbeats 4000000 in
set_option maxRecDepth 100000 in
theorem c_X0_singTo (l : Launch) (E : En) (S : St) (a2 : Int32) (S1 : St) (hf : X0_singTo S a2 = some S1) : Mv l E yX0_singTo cX0_singTo 6 none rm_X0_singTo [.ref (E.ad 24), .ref (E.ad 2), .int a2] S S1 := by
  refine g_startV (cc := cX0_singTo) (n := 6) (by decide) (Nat.le_of_ble_eq_true rfl) ?_
  intro p e s m args below meth c Q H locs C kR hW ls hl
  obtain ⟨⟨hx, hb, hml, hown, hts⟩, hK, hT⟩ := id C
  have hl : lv_has ls 6 [(0, .ref (E.ad 24)), (1, .ref (E.ad 2)), (2, .int a2)] := hl
  have X0_singTo_L2_c : ∀ (v2 : Int32) (res : St) (n : Nat) (v3 : Int32) (S : St) (H : Heap) (locs : List Loc) (ls : Array Slot), Ww E S s H locs → lv_has ls 6 [(0, .ref (E.ad 24)), (1, .ref (E.ad 2)), (2, .int v2), (3, .int v3)] → X0_singTo_L2 v2 n v3 S = some res → (∀ (T : St) (H : Heap) (locs : List Loc) (ls : Array Slot), some T = some res → Ww E T s H locs → lv_has ls 6 [(0, .ref (E.ad 24)), (1, .ref (E.ad 2)), (2, .int v2)] → W p l e rm_X0_singTo s m args below meth c H locs 0 0 Q (F0 m 43 ls [])) → W p l e rm_X0_singTo s m args below meth c H locs 0 0 Q (F0 m 2 ls []) := by
    intro v2 res n
    induction n with
    | zero =>
      intro v3 S H locs ls hW hl hf
      cases hf
    | succ n ih =>
      intro v3 S H locs ls hW hl hf kE
      unfold X0_singTo_L2 at hf
      refine lv_iload_n hx hb dX0_singTo_2 rfl (lv_at hl 3 rfl) ?_
      refine lv_aload_n hx hb dX0_singTo_3 rfl (lv_at hl 1 rfl) ?_
      refine g_get (ci := 6) (k := 0) (val := .int (rI S 2 0)) C g_us hW rfl rfl rfl (in_sid _ rfl) (by decide) f_RX0_27 rfl dX0_singTo_4 ?_
      refine lv_icmp_ge (tgt := 43) hx hb dX0_singTo_7 (by decide) (fun c1 => ?_) (fun c1 => ?_)
      · replace hf := ift_ hf c1
        exact kE _ _ _ _ hf hW (lv_sub hl [0, 1, 2] rfl)
      · replace hf := iff_ hf c1
        refine lv_aload_n hx hb dX0_singTo_10 rfl (lv_at hl 0 rfl) ?_
        refine g_get (ci := 0) (k := 0) (val := .ref (E.ad (rR S 24 0))) C g_us hW rfl rfl rfl (in_sid _ rfl) (by decide) f_RX0_9 rfl dX0_singTo_11 ?_
        refine lv_iload_n hx hb dX0_singTo_14 rfl (lv_at hl 3 rfl) ?_
        refine lv_aload_n hx hb dX0_singTo_15 rfl (lv_at hl 1 rfl) ?_
        refine lv_iload_n hx hb dX0_singTo_16 rfl (lv_at hl 3 rfl) ?_
        refine lv_iconst (v := 0) hx hb dX0_singTo_17 (by decide) ?_
        replace hf := bd_so hf
        obtain ⟨x3, h2, hf⟩ := hf
        refine g_callVi (ci := 6) (As := [.int v3, .int 0]) (rest := [.int v3, .ref (E.ad (rR S 24 0))]) C g_us hW hl.1 (c_X6_value l E S v3 0 _ h2) rfl rfl rfl (in_sid _ rfl) k_RX0_41 rfl ⟨rfl, rfl⟩ ⟨Nat.le_of_ble_eq_true rfl, Nat.le_of_ble_eq_true rfl⟩ ⟨Nat.zero_le _, Nat.zero_le _⟩ _ rfl (Nat.le_of_ble_eq_true rfl) dX0_singTo_18 (fun H locs hW => ?_)
        refine lv_iconst (v := 2) hx hb dX0_singTo_21 (by decide) ?_
        replace hf := bd_so hf
        obtain ⟨x5, h6, hf⟩ := hf
        have J7 : ∀ (H : Heap) (locs : List Loc) (ls : Array Slot), Ww E S s H locs → lv_has ls 6 [(0, .ref (E.ad 24)), (1, .ref (E.ad 2)), (2, .int v2), (3, .int v3)] → W p l e rm_X0_singTo s m args below meth c H locs 0 0 Q (F0 m 36 ls [.int x5, .int v3, .ref (E.ad (rR S 24 0))]) := by
          intro H locs ls hW hl
          replace hf := bd_so hf
          obtain ⟨S8, h9, hf⟩ := hf
          refine g_iast C hW h9 dX0_singTo_36 (fun H locs hW => ?_)
          refine lv_iinc (v := (v3 + 1)) (lv' := [(3, .int (v3 + 1)), (0, .ref (E.ad 24)), (1, .ref (E.ad 2)), (2, .int v2)]) hx hb dX0_singTo_37 hl (k := 3) rfl rfl (by decide) rfl (fun ls hl => ?_)
          refine lv_goto (tgt := 2) hx hb dX0_singTo_40 (by decide) ?_
          exact ih _ _ _ _ _ hW (lv_sub hl [1, 2, 3, 0] rfl) hf kE
        clear hf
        have hf := h6
        clear h6
        refine lv_icmp_ne (tgt := 35) hx hb dX0_singTo_22 (by decide) (fun c4 => ?_) (fun c4 => ?_)
        · replace hf := iff_ hf c4
          refine lv_iconst (v := 0) hx hb dX0_singTo_35 (by decide) ?_
          obtain rfl := so1 hf
          exact J7 _ _ _ hW (lv_sub hl [0, 1, 2, 3] rfl)
        · replace hf := ift_ hf c4
          refine lv_aload_n hx hb dX0_singTo_25 rfl (lv_at hl 1 rfl) ?_
          refine lv_iload_n hx hb dX0_singTo_26 rfl (lv_at hl 3 rfl) ?_
          refine lv_iconst (v := 3) hx hb dX0_singTo_27 (by decide) ?_
          replace hf := bd_so hf
          obtain ⟨x11, h10, hf⟩ := hf
          refine g_callVi (ci := 6) (As := [.int v3, .int 3]) (rest := [.int v3, .ref (E.ad (rR S 24 0))]) C g_us hW hl.1 (c_X6_value l E S v3 3 _ h10) rfl rfl rfl (in_sid _ rfl) k_RX0_41 rfl ⟨rfl, rfl⟩ ⟨Nat.le_of_ble_eq_true rfl, Nat.le_of_ble_eq_true rfl⟩ ⟨Nat.zero_le _, Nat.zero_le _⟩ _ rfl (Nat.le_of_ble_eq_true rfl) dX0_singTo_28 (fun H locs hW => ?_)
          refine lv_ineg hx hb dX0_singTo_31 ?_
          refine lv_goto (tgt := 36) hx hb dX0_singTo_32 (by decide) ?_
          obtain rfl := so1 hf
          exact J7 _ _ _ hW (lv_sub hl [0, 1, 2, 3] rfl)
  have X0_singTo_L73_c : ∀ (v2 : Int32) (v3 : Int32) (res : St) (n : Nat) (v5 : Int32) (S : St) (H : Heap) (locs : List Loc) (ls : Array Slot), Ww E S s H locs → lv_has ls 6 [(0, .ref (E.ad 24)), (1, .ref (E.ad 2)), (2, .int v2), (3, .int v3), (5, .int v5)] → X0_singTo_L73 v2 v3 n v5 S = some res → (∀ (T : St) (H : Heap) (locs : List Loc) (ls : Array Slot), some T = some res → Ww E T s H locs → lv_has ls 6 [(0, .ref (E.ad 24)), (1, .ref (E.ad 2)), (2, .int v2), (3, .int v3)] → W p l e rm_X0_singTo s m args below meth c H locs 0 0 Q (F0 m 116 ls [])) → W p l e rm_X0_singTo s m args below meth c H locs 0 0 Q (F0 m 73 ls []) := by
    intro v2 v3 res n
    induction n with
    | zero =>
      intro v5 S H locs ls hW hl hf
      cases hf
    | succ n ih =>
      intro v5 S H locs ls hW hl hf kE
      unfold X0_singTo_L73 at hf
      refine lv_iload hx hb dX0_singTo_73 (lv_at hl 4 rfl) ?_
      refine lv_aload_n hx hb dX0_singTo_75 rfl (lv_at hl 1 rfl) ?_
      refine g_get (ci := 6) (k := 0) (val := .int (rI S 2 0)) C g_us hW rfl rfl rfl (in_sid _ rfl) (by decide) f_RX0_27 rfl dX0_singTo_76 ?_
      refine lv_icmp_ge (tgt := 116) hx hb dX0_singTo_79 (by decide) (fun c19 => ?_) (fun c19 => ?_)
      · replace hf := ift_ hf c19
        exact kE _ _ _ _ hf hW (lv_sub hl [0, 1, 2, 3] rfl)
      · replace hf := iff_ hf c19
        refine lv_aload_n hx hb dX0_singTo_82 rfl (lv_at hl 0 rfl) ?_
        refine g_get (ci := 0) (k := 0) (val := .ref (E.ad (rR S 24 0))) C g_us hW rfl rfl rfl (in_sid _ rfl) (by decide) f_RX0_9 rfl dX0_singTo_83 ?_
        refine lv_iload hx hb dX0_singTo_86 (lv_at hl 4 rfl) ?_
        refine lv_aload_n hx hb dX0_singTo_88 rfl (lv_at hl 1 rfl) ?_
        refine lv_iload hx hb dX0_singTo_89 (lv_at hl 4 rfl) ?_
        replace hf := bd_so hf
        obtain ⟨x21, h20, hf⟩ := hf
        refine g_callVi (ci := 6) (As := [.int v5]) (rest := [.int v5, .ref (E.ad (rR S 24 0))]) C g_us hW hl.1 (c_X6_sings l E S v5 _ h20) rfl rfl rfl (in_sid _ rfl) k_RX0_33 rfl ⟨rfl, rfl⟩ ⟨Nat.le_of_ble_eq_true rfl, Nat.le_of_ble_eq_true rfl⟩ ⟨Nat.zero_le _, Nat.zero_le _⟩ _ rfl (Nat.le_of_ble_eq_true rfl) dX0_singTo_91 (fun H locs hW => ?_)
        replace hf := bd_so hf
        obtain ⟨x23, h24, hf⟩ := hf
        have J25 : ∀ (H : Heap) (locs : List Loc) (ls : Array Slot), Ww E S s H locs → lv_has ls 6 [(0, .ref (E.ad 24)), (1, .ref (E.ad 2)), (2, .int v2), (3, .int v3), (5, .int v5)] → W p l e rm_X0_singTo s m args below meth c H locs 0 0 Q (F0 m 109 ls [.int x23, .int v5, .ref (E.ad (rR S 24 0))]) := by
          intro H locs ls hW hl
          replace hf := bd_so hf
          obtain ⟨S26, h27, hf⟩ := hf
          refine g_iast C hW h27 dX0_singTo_109 (fun H locs hW => ?_)
          refine lv_iinc (v := (v5 + 1)) (lv' := [(5, .int (v5 + 1)), (0, .ref (E.ad 24)), (1, .ref (E.ad 2)), (2, .int v2), (3, .int v3)]) hx hb dX0_singTo_110 hl (k := 4) rfl rfl (by decide) rfl (fun ls hl => ?_)
          refine lv_goto (tgt := 73) hx hb dX0_singTo_113 (by decide) ?_
          exact ih _ _ _ _ _ hW (lv_sub hl [1, 2, 3, 4, 0] rfl) hf kE
        clear hf
        have hf := h24
        clear h24
        refine lv_if_eq (tgt := 108) hx hb dX0_singTo_94 (by decide) (fun c22 => ?_) (fun c22 => ?_)
        · replace hf := ift_ hf c22
          refine lv_iconst (v := 0) hx hb dX0_singTo_108 (by decide) ?_
          obtain rfl := so1 hf
          exact J25 _ _ _ hW (lv_sub hl [0, 1, 2, 3, 4] rfl)
        · replace hf := iff_ hf c22
          refine lv_aload_n hx hb dX0_singTo_97 rfl (lv_at hl 0 rfl) ?_
          refine lv_aload_n hx hb dX0_singTo_98 rfl (lv_at hl 1 rfl) ?_
          refine lv_iload hx hb dX0_singTo_99 (lv_at hl 4 rfl) ?_
          refine lv_iload_n hx hb dX0_singTo_101 rfl (lv_at hl 3 rfl) ?_
          replace hf := bd_so hf
          obtain ⟨x29, h28, hf⟩ := hf
          refine g_callVi (ci := 0) (As := [.ref (E.ad 2), .int v5, .int v3]) (rest := [.int v5, .ref (E.ad (rR S 24 0))]) C g_us hW hl.1 (c_X0_timeAt l E S v5 v3 _ h28) rfl rfl rfl (in_sid _ rfl) k_RX0_44 rfl ⟨rfl, rfl⟩ ⟨Nat.le_of_ble_eq_true rfl, Nat.le_of_ble_eq_true rfl⟩ ⟨Nat.zero_le _, Nat.zero_le _⟩ _ rfl (Nat.le_of_ble_eq_true rfl) dX0_singTo_102 (fun H locs hW => ?_)
          refine lv_goto (tgt := 109) hx hb dX0_singTo_105 (by decide) ?_
          obtain rfl := so1 hf
          exact J25 _ _ _ hW (lv_sub hl [0, 1, 2, 3, 4] rfl)
  have X0_singTo_L45_c : ∀ (v2 : Int32) (res : St) (n : Nat) (v3 : Int32) (S : St) (H : Heap) (locs : List Loc) (ls : Array Slot), Ww E S s H locs → lv_has ls 6 [(0, .ref (E.ad 24)), (1, .ref (E.ad 2)), (2, .int v2), (3, .int v3)] → X0_singTo_L45 v2 n v3 S = some res → (∀ (T : St) (H : Heap) (locs : List Loc) (ls : Array Slot), some T = some res → Ww E T s H locs → lv_has ls 6 [] → W p l e rm_X0_singTo s m args below meth c H locs 0 0 Q (F0 m 122 ls [])) → W p l e rm_X0_singTo s m args below meth c H locs 0 0 Q (F0 m 45 ls []) := by
    intro v2 res n
    induction n with
    | zero =>
      intro v3 S H locs ls hW hl hf
      cases hf
    | succ n ih =>
      intro v3 S H locs ls hW hl hf kE
      unfold X0_singTo_L45 at hf
      refine lv_iload_n hx hb dX0_singTo_45 rfl (lv_at hl 3 rfl) ?_
      refine lv_iload_n hx hb dX0_singTo_46 rfl (lv_at hl 2 rfl) ?_
      refine lv_icmp_gt (tgt := 122) hx hb dX0_singTo_47 (by decide) (fun c14 => ?_) (fun c14 => ?_)
      · replace hf := ift_ hf c14
        exact kE _ _ _ _ hf hW (lv_sub hl [] rfl)
      · replace hf := iff_ hf c14
        refine lv_aload_n hx hb dX0_singTo_50 rfl (lv_at hl 0 rfl) ?_
        refine g_get (ci := 0) (k := 1) (val := .ref (E.ad (rR S 24 1))) C g_us hW rfl rfl rfl (in_sid _ rfl) (by decide) f_RX0_15 rfl dX0_singTo_51 ?_
        refine lv_astore (lv' := [(4, .ref (E.ad (rR S 24 1))), (0, .ref (E.ad 24)), (1, .ref (E.ad 2)), (2, .int v2), (3, .int v3)]) hx hb dX0_singTo_54 hl (by decide) rfl (fun ls hl => ?_)
        refine lv_aload_n hx hb dX0_singTo_56 rfl (lv_at hl 1 rfl) ?_
        refine lv_aload_n hx hb dX0_singTo_57 rfl (lv_at hl 1 rfl) ?_
        refine g_get (ci := 0) (k := 0) (val := .ref (E.ad (rR S 24 0))) C g_us hW rfl rfl rfl (in_sid _ rfl) (by decide) f_RX0_9 rfl dX0_singTo_58 ?_
        replace hf := bd_so hf
        obtain ⟨S15, h16, hf⟩ := hf
        refine g_putR (ci := 0) (k := 1) C g_us hW rfl rfl rfl (in_sid _ rfl) (by decide) f_RX0_15 rfl rfl rfl (by decide) h16 dX0_singTo_61 (fun H locs hW => ?_)
        refine lv_aload_n hx hb dX0_singTo_64 rfl (lv_at hl 1 rfl) ?_
        refine lv_aload hx hb dX0_singTo_65 (lv_at hl 0 rfl) ?_
        replace hf := bd_so hf
        obtain ⟨S17, h18, hf⟩ := hf
        refine g_putR (ci := 0) (k := 0) C g_us hW rfl rfl rfl (in_sid _ rfl) (by decide) f_RX0_9 rfl rfl rfl (by decide) h18 dX0_singTo_67 (fun H locs hW => ?_)
        refine lv_iconst (v := 0) hx hb dX0_singTo_70 (by decide) ?_
        refine lv_istore (lv' := [(5, .int 0), (4, .ref (E.ad (rR S 24 1))), (0, .ref (E.ad 24)), (1, .ref (E.ad 2)), (2, .int v2), (3, .int v3)]) hx hb dX0_singTo_71 hl (by decide) rfl (fun ls hl => ?_)
        replace hf := bd_so hf
        obtain ⟨S30, h31, hf⟩ := hf
        have J32 : ∀ (H : Heap) (locs : List Loc) (ls : Array Slot), Ww E S30 s H locs → lv_has ls 6 [(0, .ref (E.ad 24)), (1, .ref (E.ad 2)), (2, .int v2), (3, .int v3)] → W p l e rm_X0_singTo s m args below meth c H locs 0 0 Q (F0 m 116 ls []) := by
          intro H locs ls hW hl
          refine lv_iinc (v := (v3 + 1)) (lv' := [(3, .int (v3 + 1)), (0, .ref (E.ad 24)), (1, .ref (E.ad 2)), (2, .int v2)]) hx hb dX0_singTo_116 hl (k := 3) rfl rfl (by decide) rfl (fun ls hl => ?_)
          refine lv_goto (tgt := 45) hx hb dX0_singTo_119 (by decide) ?_
          exact ih _ _ _ _ _ hW (lv_sub hl [1, 2, 3, 0] rfl) hf kE
        exact X0_singTo_L73_c _ _ _ FU _ _ _ _ _ hW (lv_sub hl [2, 3, 4, 5, 0] rfl) h31 (fun _ H locs ls e hW hl => by cases e; exact J32 H locs ls hW hl)
  unfold X0_singTo at hf
  refine lv_iconst (v := 0) hx hb dX0_singTo_0 (by decide) ?_
  refine lv_istore_n (lv' := [(3, .int 0), (0, .ref (E.ad 24)), (1, .ref (E.ad 2)), (2, .int a2)]) hx hb dX0_singTo_1 rfl hl (by decide) rfl (fun ls hl => ?_)
  replace hf := bd_so hf
  obtain ⟨S12, h13, hf⟩ := hf
  have J36 : ∀ (H : Heap) (locs : List Loc) (ls : Array Slot), Ww E S12 s H locs → lv_has ls 6 [(0, .ref (E.ad 24)), (1, .ref (E.ad 2)), (2, .int a2)] → W p l e rm_X0_singTo s m args below meth c H locs 0 0 Q (F0 m 43 ls []) := by
    intro H locs ls hW hl
    refine lv_iconst (v := 1) hx hb dX0_singTo_43 (by decide) ?_
    refine lv_istore_n (lv' := [(3, .int 1), (0, .ref (E.ad 24)), (1, .ref (E.ad 2)), (2, .int a2)]) hx hb dX0_singTo_44 rfl hl (by decide) rfl (fun ls hl => ?_)
    replace hf := bd_so hf
    obtain ⟨S33, h34, hf⟩ := hf
    have J35 : ∀ (H : Heap) (locs : List Loc) (ls : Array Slot), Ww E S33 s H locs → lv_has ls 6 [] → W p l e rm_X0_singTo s m args below meth c H locs 0 0 Q (F0 m 122 ls []) := by
      intro H locs ls hW hl
      obtain rfl := so1 hf
      exact kR _ _ _ _ hW dX0_singTo_122
    exact X0_singTo_L45_c _ _ FU _ _ _ _ _ hW (lv_sub hl [1, 2, 3, 0] rfl) h34 (fun _ H locs ls e hW hl => by cases e; exact J35 H locs ls hW hl)
  exact X0_singTo_L2_c _ _ FU _ _ _ _ _ hW (lv_sub hl [1, 2, 3, 0] rfl) h13 (fun _ H locs ls e hW hl => by cases e; exact J36 H locs ls hW hl)

abbrev rm_X0_timeOf : Room := { frames := 1, cells := 0, slots := 0, locals := 60 }
set_option maxHeartbeats 4000000 in
set_option maxRecDepth 100000 in
theorem c_X0_timeOf (l : Launch) (E : En) (S : St) (a1 : Int32) (r : Int32) (hf : X0_timeOf S a1 = some r) : Mi l E yX0_timeOf cX0_timeOf 2 (some .int) rm_X0_timeOf [.ref (E.ad 24), .int a1] S r S := by
  refine g_startI (cc := cX0_timeOf) (n := 2) (by decide) (Nat.le_of_ble_eq_true rfl) ?_
  intro p e s m args below meth c Q H locs C kR hW ls hl
  obtain ⟨⟨hx, hb, hml, hown, hts⟩, hK, hT⟩ := id C
  have hl : lv_has ls 2 [(0, .ref (E.ad 24)), (1, .int a1)] := hl
  unfold X0_timeOf at hf
  refine lv_aload_n hx hb dX0_timeOf_0 rfl (lv_at hl 0 rfl) ?_
  refine g_get (ci := 0) (k := 0) (val := .ref (E.ad (rR S 24 0))) C g_us hW rfl rfl rfl (in_sid _ rfl) (by decide) f_RX0_9 rfl dX0_timeOf_1 ?_
  refine lv_iload_n hx hb dX0_timeOf_4 rfl (lv_at hl 1 rfl) ?_
  replace hf := bd_so hf
  obtain ⟨x1, h2, hf⟩ := hf
  refine g_iald C hW h2 dX0_timeOf_5 ?_
  obtain rfl := so1 hf
  exact kR _ _ _ _ hW dX0_timeOf_6

abbrev rm_X0_meanPace : Room := { frames := 3, cells := 0, slots := 0, locals := 103 }
set_option maxHeartbeats 4000000 in
set_option maxRecDepth 100000 in
theorem c_X0_meanPace (l : Launch) (E : En) (S : St) (r : Int32) (hf : X0_meanPace S  = some r) : Mi l E yX0_meanPace cX0_meanPace 5 (some .int) rm_X0_meanPace [.ref (E.ad 24), .ref (E.ad 2)] S r S := by
  refine g_startI (cc := cX0_meanPace) (n := 5) (by decide) (Nat.le_of_ble_eq_true rfl) ?_
  intro p e s m args below meth c Q H locs C kR hW ls hl
  obtain ⟨⟨hx, hb, hml, hown, hts⟩, hK, hT⟩ := id C
  have hl : lv_has ls 5 [(0, .ref (E.ad 24)), (1, .ref (E.ad 2))] := hl
  have X0_meanPace_L7_c : ∀ (S : St) (res : Int32 × Int32) (n : Nat) (v2 : Int32) (v3 : Int32) (v4 : Int32) (H : Heap) (locs : List Loc) (ls : Array Slot), Ww E S s H locs → lv_has ls 5 [(0, .ref (E.ad 24)), (1, .ref (E.ad 2)), (2, .int v2), (3, .int v3), (4, .int v4)] → X0_meanPace_L7 S  n v2 v3 v4 = some res → (∀ (w2 : Int32) (w3 : Int32) (H : Heap) (locs : List Loc) (ls : Array Slot), some (w2, w3) = some res → Ww E S s H locs → lv_has ls 5 [(2, .int w2), (3, .int w3)] → W p l e rm_X0_meanPace s m args below meth c H locs 0 0 Q (F0 m 52 ls [])) → W p l e rm_X0_meanPace s m args below meth c H locs 0 0 Q (F0 m 7 ls []) := by
    intro S  res n
    induction n with
    | zero =>
      intro v2 v3 v4 H locs ls hW hl hf
      cases hf
    | succ n ih =>
      intro v2 v3 v4 H locs ls hW hl hf kE
      unfold X0_meanPace_L7 at hf
      refine lv_iload hx hb dX0_meanPace_7 (lv_at hl 4 rfl) ?_
      refine lv_aload_n hx hb dX0_meanPace_9 rfl (lv_at hl 1 rfl) ?_
      refine g_get (ci := 6) (k := 0) (val := .int (rI S 2 0)) C g_us hW rfl rfl rfl (in_sid _ rfl) (by decide) f_RX0_27 rfl dX0_meanPace_10 ?_
      refine lv_icmp_ge (tgt := 52) hx hb dX0_meanPace_13 (by decide) (fun c1 => ?_) (fun c1 => ?_)
      · replace hf := ift_ hf c1
        exact kE _ _ _ _ _ hf hW (lv_sub hl [2, 3] rfl)
      · replace hf := iff_ hf c1
        refine lv_aload_n hx hb dX0_meanPace_16 rfl (lv_at hl 1 rfl) ?_
        refine lv_iload hx hb dX0_meanPace_17 (lv_at hl 4 rfl) ?_
        replace hf := bd_so hf
        obtain ⟨x3, h2, hf⟩ := hf
        refine g_callVi (ci := 6) (As := [.int v4]) (rest := []) C g_us hW hl.1 (c_X6_sings l E S v4 _ h2) rfl rfl rfl (in_sid _ rfl) k_RX0_33 rfl ⟨rfl, rfl⟩ ⟨Nat.le_of_ble_eq_true rfl, Nat.le_of_ble_eq_true rfl⟩ ⟨Nat.zero_le _, Nat.zero_le _⟩ _ rfl (Nat.le_of_ble_eq_true rfl) dX0_meanPace_19 (fun H locs hW => ?_)
        replace hf := bd_so hf
        obtain ⟨⟨x5, x6⟩, h7, hf⟩ := hf
        dsimp only at hf
        have J8 : ∀ (H : Heap) (locs : List Loc) (ls : Array Slot), Ww E S s H locs → lv_has ls 5 [(0, .ref (E.ad 24)), (1, .ref (E.ad 2)), (2, .int x5), (3, .int x6), (4, .int v4)] → W p l e rm_X0_meanPace s m args below meth c H locs 0 0 Q (F0 m 46 ls []) := by
          intro H locs ls hW hl
          refine lv_iinc (v := (v4 + 1)) (lv' := [(4, .int (v4 + 1)), (0, .ref (E.ad 24)), (1, .ref (E.ad 2)), (2, .int x5), (3, .int x6)]) hx hb dX0_meanPace_46 hl (k := 4) rfl rfl (by decide) rfl (fun ls hl => ?_)
          refine lv_goto (tgt := 7) hx hb dX0_meanPace_49 (by decide) ?_
          exact ih _ _ _ _ _ _ hW (lv_sub hl [1, 2, 3, 4, 0] rfl) hf kE
        clear hf
        have hf := h7
        clear h7
        refine lv_if_eq (tgt := 46) hx hb dX0_meanPace_22 (by decide) (fun c4 => ?_) (fun c4 => ?_)
        · replace hf := ift_ hf c4
          obtain ⟨rfl, rfl⟩ := so2 hf
          exact J8 _ _ _ hW (lv_sub hl [0, 1, 2, 3, 4] rfl)
        · replace hf := iff_ hf c4
          refine lv_iload_n hx hb dX0_meanPace_25 rfl (lv_at hl 2 rfl) ?_
          refine lv_aload_n hx hb dX0_meanPace_26 rfl (lv_at hl 0 rfl) ?_
          refine g_get (ci := 0) (k := 0) (val := .ref (E.ad (rR S 24 0))) C g_us hW rfl rfl rfl (in_sid _ rfl) (by decide) f_RX0_9 rfl dX0_meanPace_27 ?_
          refine lv_iload hx hb dX0_meanPace_30 (lv_at hl 4 rfl) ?_
          replace hf := bd_so hf
          obtain ⟨x9, h10, hf⟩ := hf
          refine g_iald C hW h10 dX0_meanPace_32 ?_
          refine lv_aload_n hx hb dX0_meanPace_33 rfl (lv_at hl 0 rfl) ?_
          refine g_get (ci := 0) (k := 1) (val := .ref (E.ad (rR S 24 1))) C g_us hW rfl rfl rfl (in_sid _ rfl) (by decide) f_RX0_15 rfl dX0_meanPace_34 ?_
          refine lv_iload hx hb dX0_meanPace_37 (lv_at hl 4 rfl) ?_
          replace hf := bd_so hf
          obtain ⟨x11, h12, hf⟩ := hf
          refine g_iald C hW h12 dX0_meanPace_39 ?_
          refine lv_isub hx hb dX0_meanPace_40 ?_
          refine lv_iadd hx hb dX0_meanPace_41 ?_
          refine lv_istore_n (lv' := [(2, .int (v2 + (x9 - x11))), (0, .ref (E.ad 24)), (1, .ref (E.ad 2)), (3, .int v3), (4, .int v4)]) hx hb dX0_meanPace_42 rfl hl (by decide) rfl (fun ls hl => ?_)
          refine lv_iinc (v := (v3 + 1)) (lv' := [(3, .int (v3 + 1)), (2, .int (v2 + (x9 - x11))), (0, .ref (E.ad 24)), (1, .ref (E.ad 2)), (4, .int v4)]) hx hb dX0_meanPace_43 hl (k := 3) rfl rfl (by decide) rfl (fun ls hl => ?_)
          obtain ⟨rfl, rfl⟩ := so2 hf
          exact J8 _ _ _ hW (lv_sub hl [2, 3, 1, 0, 4] rfl)
  unfold X0_meanPace at hf
  refine lv_iconst (v := 0) hx hb dX0_meanPace_0 (by decide) ?_
  refine lv_istore_n (lv' := [(2, .int 0), (0, .ref (E.ad 24)), (1, .ref (E.ad 2))]) hx hb dX0_meanPace_1 rfl hl (by decide) rfl (fun ls hl => ?_)
  refine lv_iconst (v := 0) hx hb dX0_meanPace_2 (by decide) ?_
  refine lv_istore_n (lv' := [(3, .int 0), (2, .int 0), (0, .ref (E.ad 24)), (1, .ref (E.ad 2))]) hx hb dX0_meanPace_3 rfl hl (by decide) rfl (fun ls hl => ?_)
  refine lv_iconst (v := 0) hx hb dX0_meanPace_4 (by decide) ?_
  refine lv_istore (lv' := [(4, .int 0), (3, .int 0), (2, .int 0), (0, .ref (E.ad 24)), (1, .ref (E.ad 2))]) hx hb dX0_meanPace_5 hl (by decide) rfl (fun ls hl => ?_)
  replace hf := bd_so hf
  obtain ⟨⟨x13, x14⟩, h15, hf⟩ := hf
  dsimp only at hf
  have J19 : ∀ (H : Heap) (locs : List Loc) (ls : Array Slot), Ww E S s H locs → lv_has ls 5 [(2, .int x13), (3, .int x14)] → W p l e rm_X0_meanPace s m args below meth c H locs 0 0 Q (F0 m 52 ls []) := by
    intro H locs ls hW hl
    refine lv_iload_n hx hb dX0_meanPace_52 rfl (lv_at hl 1 rfl) ?_
    refine lv_if_ne (tgt := 60) hx hb dX0_meanPace_53 (by decide) (fun c16 => ?_) (fun c16 => ?_)
    · replace hf := iff_ hf c16
      refine lv_iload_n hx hb dX0_meanPace_60 rfl (lv_at hl 0 rfl) ?_
      refine lv_iload_n hx hb dX0_meanPace_61 rfl (lv_at hl 1 rfl) ?_
      replace hf := bd_so hf
      obtain ⟨x17, h18, hf⟩ := hf
      refine g_idiv C h18 dX0_meanPace_62 ?_
      obtain rfl := so1 hf
      exact kR _ _ _ _ hW dX0_meanPace_63
    · replace hf := ift_ hf c16
      refine lv_iconst (v := 0) hx hb dX0_meanPace_56 (by decide) ?_
      refine lv_goto (tgt := 63) hx hb dX0_meanPace_57 (by decide) ?_
      obtain rfl := so1 hf
      exact kR _ _ _ _ hW dX0_meanPace_63
  exact X0_meanPace_L7_c _ _ FU _ _ _ _ _ _ hW (lv_sub hl [3, 4, 2, 1, 0] rfl) h15 (fun _ _ H locs ls e hW hl => by cases e; exact J19 H locs ls hW hl)

abbrev rm_X0_spread : Room := { frames := 3, cells := 0, slots := 0, locals := 103 }
set_option maxHeartbeats 4000000 in
set_option maxRecDepth 100000 in
theorem c_X0_spread (l : Launch) (E : En) (S : St) (r : Int32) (hf : X0_spread S  = some r) : Mi l E yX0_spread cX0_spread 6 (some .int) rm_X0_spread [.ref (E.ad 24), .ref (E.ad 2)] S r S := by
  refine g_startI (cc := cX0_spread) (n := 6) (by decide) (Nat.le_of_ble_eq_true rfl) ?_
  intro p e s m args below meth c Q H locs C kR hW ls hl
  obtain ⟨⟨hx, hb, hml, hown, hts⟩, hK, hT⟩ := id C
  have hl : lv_has ls 6 [(0, .ref (E.ad 24)), (1, .ref (E.ad 2))] := hl
  have X0_spread_L10_c : ∀ (S : St) (res : Int32 × Int32) (n : Nat) (v2 : Int32) (v3 : Int32) (v4 : Int32) (v5 : Int32) (H : Heap) (locs : List Loc) (ls : Array Slot), Ww E S s H locs → lv_has ls 6 [(0, .ref (E.ad 24)), (1, .ref (E.ad 2)), (2, .int v2), (3, .int v3), (4, .int v4), (5, .int v5)] → X0_spread_L10 S  n v2 v3 v4 v5 = some res → (∀ (w3 : Int32) (w4 : Int32) (H : Heap) (locs : List Loc) (ls : Array Slot), some (w3, w4) = some res → Ww E S s H locs → lv_has ls 6 [(3, .int w3), (4, .int w4)] → W p l e rm_X0_spread s m args below meth c H locs 0 0 Q (F0 m 90 ls [])) → W p l e rm_X0_spread s m args below meth c H locs 0 0 Q (F0 m 10 ls []) := by
    intro S  res n
    induction n with
    | zero =>
      intro v2 v3 v4 v5 H locs ls hW hl hf
      cases hf
    | succ n ih =>
      intro v2 v3 v4 v5 H locs ls hW hl hf kE
      unfold X0_spread_L10 at hf
      refine lv_iload hx hb dX0_spread_10 (lv_at hl 5 rfl) ?_
      refine lv_aload_n hx hb dX0_spread_12 rfl (lv_at hl 1 rfl) ?_
      refine g_get (ci := 6) (k := 0) (val := .int (rI S 2 0)) C g_us hW rfl rfl rfl (in_sid _ rfl) (by decide) f_RX0_27 rfl dX0_spread_13 ?_
      refine lv_icmp_ge (tgt := 90) hx hb dX0_spread_16 (by decide) (fun c1 => ?_) (fun c1 => ?_)
      · replace hf := ift_ hf c1
        exact kE _ _ _ _ _ hf hW (lv_sub hl [3, 4] rfl)
      · replace hf := iff_ hf c1
        refine lv_aload_n hx hb dX0_spread_19 rfl (lv_at hl 1 rfl) ?_
        refine lv_iload hx hb dX0_spread_20 (lv_at hl 5 rfl) ?_
        replace hf := bd_so hf
        obtain ⟨x3, h2, hf⟩ := hf
        refine g_callVi (ci := 6) (As := [.int v5]) (rest := []) C g_us hW hl.1 (c_X6_sings l E S v5 _ h2) rfl rfl rfl (in_sid _ rfl) k_RX0_33 rfl ⟨rfl, rfl⟩ ⟨Nat.le_of_ble_eq_true rfl, Nat.le_of_ble_eq_true rfl⟩ ⟨Nat.zero_le _, Nat.zero_le _⟩ _ rfl (Nat.le_of_ble_eq_true rfl) dX0_spread_22 (fun H locs hW => ?_)
        replace hf := bd_so hf
        obtain ⟨⟨x5, x6, x7⟩, h8, hf⟩ := hf
        dsimp only at hf
        have J9 : ∀ (H : Heap) (locs : List Loc) (ls : Array Slot), Ww E S s H locs → lv_has ls 6 [(0, .ref (E.ad 24)), (1, .ref (E.ad 2)), (2, .int x5), (3, .int x6), (4, .int x7), (5, .int v5)] → W p l e rm_X0_spread s m args below meth c H locs 0 0 Q (F0 m 84 ls []) := by
          intro H locs ls hW hl
          refine lv_iinc (v := (v5 + 1)) (lv' := [(5, .int (v5 + 1)), (0, .ref (E.ad 24)), (1, .ref (E.ad 2)), (2, .int x5), (3, .int x6), (4, .int x7)]) hx hb dX0_spread_84 hl (k := 5) rfl rfl (by decide) rfl (fun ls hl => ?_)
          refine lv_goto (tgt := 10) hx hb dX0_spread_87 (by decide) ?_
          exact ih _ _ _ _ _ _ _ hW (lv_sub hl [1, 2, 3, 4, 5, 0] rfl) hf kE
        clear hf
        have hf := h8
        clear h8
        refine lv_if_eq (tgt := 84) hx hb dX0_spread_25 (by decide) (fun c4 => ?_) (fun c4 => ?_)
        · replace hf := ift_ hf c4
          obtain ⟨rfl, rfl, rfl⟩ := so3 hf
          exact J9 _ _ _ hW (lv_sub hl [0, 1, 2, 3, 4, 5] rfl)
        · replace hf := iff_ hf c4
          refine lv_iload_n hx hb dX0_spread_28 rfl (lv_at hl 2 rfl) ?_
          replace hf := bd_so hf
          obtain ⟨x11, h12, hf⟩ := hf
          have J13 : ∀ (H : Heap) (locs : List Loc) (ls : Array Slot), Ww E S s H locs → lv_has ls 6 [(0, .ref (E.ad 24)), (1, .ref (E.ad 2)), (2, .int v2), (4, .int v4), (5, .int v5)] → W p l e rm_X0_spread s m args below meth c H locs 0 0 Q (F0 m 53 ls [.int x11]) := by
            intro H locs ls hW hl
            refine lv_istore_n (lv' := [(3, .int x11), (0, .ref (E.ad 24)), (1, .ref (E.ad 2)), (2, .int v2), (4, .int v4), (5, .int v5)]) hx hb dX0_spread_53 rfl hl (by decide) rfl (fun ls hl => ?_)
            refine lv_iload_n hx hb dX0_spread_54 rfl (lv_at hl 3 rfl) ?_
            replace hf := bd_so hf
            obtain ⟨x15, h16, hf⟩ := hf
            have J17 : ∀ (H : Heap) (locs : List Loc) (ls : Array Slot), Ww E S s H locs → lv_has ls 6 [(0, .ref (E.ad 24)), (1, .ref (E.ad 2)), (3, .int x11), (5, .int v5)] → W p l e rm_X0_spread s m args below meth c H locs 0 0 Q (F0 m 80 ls [.int x15]) := by
              intro H locs ls hW hl
              refine lv_istore (lv' := [(4, .int x15), (0, .ref (E.ad 24)), (1, .ref (E.ad 2)), (3, .int x11), (5, .int v5)]) hx hb dX0_spread_80 hl (by decide) rfl (fun ls hl => ?_)
              refine lv_iconst (v := 1) hx hb dX0_spread_82 (by decide) ?_
              refine lv_istore_n (lv' := [(2, .int 1), (4, .int x15), (0, .ref (E.ad 24)), (1, .ref (E.ad 2)), (3, .int x11), (5, .int v5)]) hx hb dX0_spread_83 rfl hl (by decide) rfl (fun ls hl => ?_)
              obtain ⟨rfl, rfl, rfl⟩ := so3 hf
              exact J9 _ _ _ hW (lv_sub hl [2, 3, 0, 4, 1, 5] rfl)
            clear hf
            have hf := h16
            clear h16
            refine lv_if_eq (tgt := 73) hx hb dX0_spread_55 (by decide) (fun c14 => ?_) (fun c14 => ?_)
            · replace hf := ift_ hf c14
              refine lv_aload_n hx hb dX0_spread_73 rfl (lv_at hl 1 rfl) ?_
              refine g_get (ci := 0) (k := 0) (val := .ref (E.ad (rR S 24 0))) C g_us hW rfl rfl rfl (in_sid _ rfl) (by decide) f_RX0_9 rfl dX0_spread_74 ?_
              refine lv_iload hx hb dX0_spread_77 (lv_at hl 5 rfl) ?_
              replace hf := bd_so hf
              obtain ⟨x18, h19, hf⟩ := hf
              refine g_iald C hW h19 dX0_spread_79 ?_
              obtain rfl := so1 hf
              exact J17 _ _ _ hW (lv_sub hl [1, 2, 0, 5] rfl)
            · replace hf := iff_ hf c14
              refine lv_iload hx hb dX0_spread_58 (lv_at hl 4 rfl) ?_
              refine lv_aload_n hx hb dX0_spread_60 rfl (lv_at hl 1 rfl) ?_
              refine g_get (ci := 0) (k := 0) (val := .ref (E.ad (rR S 24 0))) C g_us hW rfl rfl rfl (in_sid _ rfl) (by decide) f_RX0_9 rfl dX0_spread_61 ?_
              refine lv_iload hx hb dX0_spread_64 (lv_at hl 5 rfl) ?_
              replace hf := bd_so hf
              obtain ⟨x20, h21, hf⟩ := hf
              refine g_iald C hW h21 dX0_spread_66 ?_
              refine g_max C g_us hl.1 k_RX0_54 (Nat.le_of_ble_eq_true rfl) (Nat.le_of_ble_eq_true rfl) ⟨Nat.zero_le _, Nat.zero_le _⟩ dX0_spread_67 ?_
              refine lv_goto (tgt := 80) hx hb dX0_spread_70 (by decide) ?_
              obtain rfl := so1 hf
              exact J17 _ _ _ hW (lv_sub hl [1, 2, 0, 5] rfl)
          clear hf
          have hf := h12
          clear h12
          refine lv_if_eq (tgt := 46) hx hb dX0_spread_29 (by decide) (fun c10 => ?_) (fun c10 => ?_)
          · replace hf := ift_ hf c10
            refine lv_aload_n hx hb dX0_spread_46 rfl (lv_at hl 0 rfl) ?_
            refine g_get (ci := 0) (k := 0) (val := .ref (E.ad (rR S 24 0))) C g_us hW rfl rfl rfl (in_sid _ rfl) (by decide) f_RX0_9 rfl dX0_spread_47 ?_
            refine lv_iload hx hb dX0_spread_50 (lv_at hl 5 rfl) ?_
            replace hf := bd_so hf
            obtain ⟨x22, h23, hf⟩ := hf
            refine g_iald C hW h23 dX0_spread_52 ?_
            obtain rfl := so1 hf
            exact J13 _ _ _ hW (lv_sub hl [0, 1, 2, 4, 5] rfl)
          · replace hf := iff_ hf c10
            refine lv_iload_n hx hb dX0_spread_32 rfl (lv_at hl 3 rfl) ?_
            refine lv_aload_n hx hb dX0_spread_33 rfl (lv_at hl 0 rfl) ?_
            refine g_get (ci := 0) (k := 0) (val := .ref (E.ad (rR S 24 0))) C g_us hW rfl rfl rfl (in_sid _ rfl) (by decide) f_RX0_9 rfl dX0_spread_34 ?_
            refine lv_iload hx hb dX0_spread_37 (lv_at hl 5 rfl) ?_
            replace hf := bd_so hf
            obtain ⟨x24, h25, hf⟩ := hf
            refine g_iald C hW h25 dX0_spread_39 ?_
            refine g_min C g_us hl.1 k_RX0_59 (Nat.le_of_ble_eq_true rfl) (Nat.le_of_ble_eq_true rfl) ⟨Nat.zero_le _, Nat.zero_le _⟩ dX0_spread_40 ?_
            refine lv_goto (tgt := 53) hx hb dX0_spread_43 (by decide) ?_
            obtain rfl := so1 hf
            exact J13 _ _ _ hW (lv_sub hl [0, 1, 2, 4, 5] rfl)
  unfold X0_spread at hf
  refine lv_iconst (v := 0) hx hb dX0_spread_0 (by decide) ?_
  refine lv_istore_n (lv' := [(2, .int 0), (0, .ref (E.ad 24)), (1, .ref (E.ad 2))]) hx hb dX0_spread_1 rfl hl (by decide) rfl (fun ls hl => ?_)
  refine lv_iconst (v := 0) hx hb dX0_spread_2 (by decide) ?_
  refine lv_istore_n (lv' := [(3, .int 0), (2, .int 0), (0, .ref (E.ad 24)), (1, .ref (E.ad 2))]) hx hb dX0_spread_3 rfl hl (by decide) rfl (fun ls hl => ?_)
  refine lv_iconst (v := 0) hx hb dX0_spread_4 (by decide) ?_
  refine lv_istore (lv' := [(4, .int 0), (3, .int 0), (2, .int 0), (0, .ref (E.ad 24)), (1, .ref (E.ad 2))]) hx hb dX0_spread_5 hl (by decide) rfl (fun ls hl => ?_)
  refine lv_iconst (v := 0) hx hb dX0_spread_7 (by decide) ?_
  refine lv_istore (lv' := [(5, .int 0), (4, .int 0), (3, .int 0), (2, .int 0), (0, .ref (E.ad 24)), (1, .ref (E.ad 2))]) hx hb dX0_spread_8 hl (by decide) rfl (fun ls hl => ?_)
  replace hf := bd_so hf
  obtain ⟨⟨x26, x27⟩, h28, hf⟩ := hf
  dsimp only at hf
  have J29 : ∀ (H : Heap) (locs : List Loc) (ls : Array Slot), Ww E S s H locs → lv_has ls 6 [(3, .int x26), (4, .int x27)] → W p l e rm_X0_spread s m args below meth c H locs 0 0 Q (F0 m 90 ls []) := by
    intro H locs ls hW hl
    refine lv_iload hx hb dX0_spread_90 (lv_at hl 1 rfl) ?_
    refine lv_iload_n hx hb dX0_spread_92 rfl (lv_at hl 0 rfl) ?_
    refine lv_isub hx hb dX0_spread_93 ?_
    obtain rfl := so1 hf
    exact kR _ _ _ _ hW dX0_spread_94
  exact X0_spread_L10_c _ _ FU _ _ _ _ _ _ _ hW (lv_sub hl [4, 5, 3, 2, 1, 0] rfl) h28 (fun _ _ H locs ls e hW hl => by cases e; exact J29 H locs ls hW hl)

abbrev rm_X2_lead : Room := { frames := 3, cells := 0, slots := 0, locals := 106 }
set_option maxHeartbeats 4000000 in
set_option maxRecDepth 100000 in
theorem c_X2_lead (l : Launch) (E : En) (S : St) (a2 : Int32) (a3 : Int32) (S1 : St) (hf : X2_lead S a2 a3 = some S1) : Mv l E yX2_lead cX2_lead 6 none rm_X2_lead [.ref (E.ad 30), .ref (E.ad 2), .int a2, .int a3] S S1 := by
  refine g_startV (cc := cX2_lead) (n := 6) (by decide) (Nat.le_of_ble_eq_true rfl) ?_
  intro p e s m args below meth c Q H locs C kR hW ls hl
  obtain ⟨⟨hx, hb, hml, hown, hts⟩, hK, hT⟩ := id C
  have hl : lv_has ls 6 [(0, .ref (E.ad 30)), (1, .ref (E.ad 2)), (2, .int a2), (3, .int a3)] := hl
  have X2_lead_L11_c : ∀ (v2 : Int32) (v4 : Int32) (res : St) (n : Nat) (v5 : Int32) (S : St) (H : Heap) (locs : List Loc) (ls : Array Slot), Ww E S s H locs → lv_has ls 6 [(0, .ref (E.ad 30)), (1, .ref (E.ad 2)), (2, .int v2), (4, .int v4), (5, .int v5)] → X2_lead_L11 v2 v4 n v5 S = some res → (∀ (T : St) (H : Heap) (locs : List Loc) (ls : Array Slot), some T = some res → Ww E T s H locs → lv_has ls 6 [] → W p l e rm_X2_lead s m args below meth c H locs 0 0 Q (F0 m 43 ls [])) → W p l e rm_X2_lead s m args below meth c H locs 0 0 Q (F0 m 11 ls []) := by
    intro v2 v4 res n
    induction n with
    | zero =>
      intro v5 S H locs ls hW hl hf
      cases hf
    | succ n ih =>
      intro v5 S H locs ls hW hl hf kE
      unfold X2_lead_L11 at hf
      refine lv_iload hx hb dX2_lead_11 (lv_at hl 4 rfl) ?_
      refine lv_aload_n hx hb dX2_lead_13 rfl (lv_at hl 1 rfl) ?_
      refine g_get (ci := 6) (k := 0) (val := .int (rI S 2 0)) C g_us hW rfl rfl rfl (in_sid _ rfl) (by decide) f_RX2_21 rfl dX2_lead_14 ?_
      refine lv_icmp_ge (tgt := 43) hx hb dX2_lead_17 (by decide) (fun c3 => ?_) (fun c3 => ?_)
      · replace hf := ift_ hf c3
        exact kE _ _ _ _ hf hW (lv_sub hl [] rfl)
      · replace hf := iff_ hf c3
        refine lv_aload_n hx hb dX2_lead_20 rfl (lv_at hl 0 rfl) ?_
        refine g_get (ci := 2) (k := 0) (val := .ref (E.ad 31)) C g_us hW rfl rfl rfl (in_sid _ rfl) (by decide) f_RX2_9 rfl dX2_lead_21 ?_
        refine lv_iload hx hb dX2_lead_24 (lv_at hl 4 rfl) ?_
        refine lv_aload_n hx hb dX2_lead_26 rfl (lv_at hl 1 rfl) ?_
        refine lv_iload hx hb dX2_lead_27 (lv_at hl 4 rfl) ?_
        refine lv_iload_n hx hb dX2_lead_29 rfl (lv_at hl 2 rfl) ?_
        replace hf := bd_so hf
        obtain ⟨x5, h4, hf⟩ := hf
        refine g_callVi (ci := 6) (As := [.int v5, .int v2]) (rest := [.int v5, .ref (E.ad 31)]) C g_us hW hl.1 (c_X6_between l E S v5 v2 _ h4) rfl rfl rfl (in_sid _ rfl) k_RX2_45 rfl ⟨rfl, rfl⟩ ⟨Nat.le_of_ble_eq_true rfl, Nat.le_of_ble_eq_true rfl⟩ ⟨Nat.zero_le _, Nat.zero_le _⟩ _ rfl (Nat.le_of_ble_eq_true rfl) dX2_lead_30 (fun H locs hW => ?_)
        refine lv_iload hx hb dX2_lead_33 (lv_at hl 3 rfl) ?_
        refine lv_isub hx hb dX2_lead_35 ?_
        replace hf := bd_so hf
        obtain ⟨S6, h7, hf⟩ := hf
        refine g_iast C hW h7 dX2_lead_36 (fun H locs hW => ?_)
        refine lv_iinc (v := (v5 + 1)) (lv' := [(5, .int (v5 + 1)), (0, .ref (E.ad 30)), (1, .ref (E.ad 2)), (2, .int v2), (4, .int v4)]) hx hb dX2_lead_37 hl (k := 4) rfl rfl (by decide) rfl (fun ls hl => ?_)
        refine lv_goto (tgt := 11) hx hb dX2_lead_40 (by decide) ?_
        exact ih _ _ _ _ _ hW (lv_sub hl [1, 2, 3, 4, 0] rfl) hf kE
  unfold X2_lead at hf
  refine lv_aload_n hx hb dX2_lead_0 rfl (lv_at hl 1 rfl) ?_
  refine lv_iload_n hx hb dX2_lead_1 rfl (lv_at hl 2 rfl) ?_
  refine lv_iload_n hx hb dX2_lead_2 rfl (lv_at hl 3 rfl) ?_
  replace hf := bd_so hf
  obtain ⟨x2, h1, hf⟩ := hf
  refine g_callVi (ci := 6) (As := [.int a2, .int a3]) (rest := []) C g_us hW hl.1 (c_X6_shortestWire l E S a2 a3 _ h1) rfl rfl rfl (in_sid _ rfl) k_RX2_41 rfl ⟨rfl, rfl⟩ ⟨Nat.le_of_ble_eq_true rfl, Nat.le_of_ble_eq_true rfl⟩ ⟨Nat.zero_le _, Nat.zero_le _⟩ _ rfl (Nat.le_of_ble_eq_true rfl) dX2_lead_3 (fun H locs hW => ?_)
  refine lv_istore (lv' := [(4, .int x2), (0, .ref (E.ad 30)), (1, .ref (E.ad 2)), (2, .int a2), (3, .int a3)]) hx hb dX2_lead_6 hl (by decide) rfl (fun ls hl => ?_)
  refine lv_iconst (v := 0) hx hb dX2_lead_8 (by decide) ?_
  refine lv_istore (lv' := [(5, .int 0), (4, .int x2), (0, .ref (E.ad 30)), (1, .ref (E.ad 2)), (2, .int a2), (3, .int a3)]) hx hb dX2_lead_9 hl (by decide) rfl (fun ls hl => ?_)
  replace hf := bd_so hf
  obtain ⟨S8, h9, hf⟩ := hf
  have J10 : ∀ (H : Heap) (locs : List Loc) (ls : Array Slot), Ww E S8 s H locs → lv_has ls 6 [] → W p l e rm_X2_lead s m args below meth c H locs 0 0 Q (F0 m 43 ls []) := by
    intro H locs ls hW hl
    obtain rfl := so1 hf
    exact kR _ _ _ _ hW dX2_lead_43
  exact X2_lead_L11_c _ _ _ FU _ _ _ _ _ hW (lv_sub hl [2, 3, 4, 1, 0] rfl) h9 (fun _ H locs ls e hW hl => by cases e; exact J10 H locs ls hW hl)

abbrev rm_X2_agrees : Room := { frames := 3, cells := 0, slots := 0, locals := 106 }
set_option maxHeartbeats 4000000 in
set_option maxRecDepth 100000 in
theorem c_X2_agrees (l : Launch) (E : En) (S : St) (a2 : Int32) (a3 : Int32) (r : Int32) (hf : X2_agrees S a2 a3 = some r) : Mi l E yX2_agrees cX2_agrees 6 (some .boolean) rm_X2_agrees [.ref (E.ad 30), .ref (E.ad 2), .int a2, .int a3] S r S := by
  refine g_startZ (cc := cX2_agrees) (n := 6) (by decide) (Nat.le_of_ble_eq_true rfl) ?_
  intro p e s m args below meth c Q H locs C kR hW ls hl
  obtain ⟨⟨hx, hb, hml, hown, hts⟩, hK, hT⟩ := id C
  have hl : lv_has ls 6 [(0, .ref (E.ad 30)), (1, .ref (E.ad 2)), (2, .int a2), (3, .int a3)] := hl
  have X2_agrees_L11_c : ∀ (S : St) (v2 : Int32) (v3 : Int32) (v4 : Int32) (res : (Unit) ⊕ (Int32)) (n : Nat) (v5 : Int32) (H : Heap) (locs : List Loc) (ls : Array Slot), Ww E S s H locs → lv_has ls 6 [(0, .ref (E.ad 30)), (1, .ref (E.ad 2)), (2, .int v2), (3, .int v3), (4, .int v4), (5, .int v5)] → X2_agrees_L11 S v2 v3 v4 n v5 = some res → (∀ (H : Heap) (locs : List Loc) (ls : Array Slot), some (.inl ()) = some res → Ww E S s H locs → lv_has ls 6 [] → W p l e rm_X2_agrees s m args below meth c H locs 0 0 Q (F0 m 57 ls [])) → (∀ (r0 : Int32) (H : Heap) (locs : List Loc) (pc : Nat) (ls : Array Slot), some (.inr r0) = some res → Ww E S s H locs → (r0 = 0 ∨ r0 = 1) → decode cX2_agrees pc = .ok (.ireturn, 1) → W p l e rm_X2_agrees s m args below meth c H locs 0 0 Q (F0 m pc ls [.int r0])) → W p l e rm_X2_agrees s m args below meth c H locs 0 0 Q (F0 m 11 ls []) := by
    intro S v2 v3 v4 res n
    induction n with
    | zero =>
      intro v5 H locs ls hW hl hf
      cases hf
    | succ n ih =>
      intro v5 H locs ls hW hl hf kE kR
      unfold X2_agrees_L11 at hf
      refine lv_iload hx hb dX2_agrees_11 (lv_at hl 5 rfl) ?_
      refine lv_aload_n hx hb dX2_agrees_13 rfl (lv_at hl 1 rfl) ?_
      refine g_get (ci := 6) (k := 0) (val := .int (rI S 2 0)) C g_us hW rfl rfl rfl (in_sid _ rfl) (by decide) f_RX2_21 rfl dX2_agrees_14 ?_
      refine lv_icmp_ge (tgt := 57) hx hb dX2_agrees_17 (by decide) (fun c3 => ?_) (fun c3 => ?_)
      · replace hf := ift_ hf c3
        exact kE  _ _ _ hf hW (lv_sub hl [] rfl)
      · replace hf := iff_ hf c3
        refine lv_iload_n hx hb dX2_agrees_20 rfl (lv_at hl 3 rfl) ?_
        refine lv_iload hx hb dX2_agrees_21 (lv_at hl 5 rfl) ?_
        refine lv_ishr hx hb dX2_agrees_23 ?_
        refine lv_iconst (v := 1) hx hb dX2_agrees_24 (by decide) ?_
        refine lv_iand hx hb dX2_agrees_25 ?_
        refine lv_if_eq (tgt := 51) hx hb dX2_agrees_26 (by decide) (fun c4 => ?_) (fun c4 => ?_)
        · replace hf := ift_ hf c4
          refine lv_iinc (v := (v5 + 1)) (lv' := [(5, .int (v5 + 1)), (0, .ref (E.ad 30)), (1, .ref (E.ad 2)), (2, .int v2), (3, .int v3), (4, .int v4)]) hx hb dX2_agrees_51 hl (k := 5) rfl rfl (by decide) rfl (fun ls hl => ?_)
          refine lv_goto (tgt := 11) hx hb dX2_agrees_54 (by decide) ?_
          exact ih _ _ _ _ hW (lv_sub hl [1, 2, 3, 4, 5, 0] rfl) hf kE kR
        · replace hf := iff_ hf c4
          refine lv_aload_n hx hb dX2_agrees_29 rfl (lv_at hl 0 rfl) ?_
          refine g_get (ci := 2) (k := 0) (val := .ref (E.ad 31)) C g_us hW rfl rfl rfl (in_sid _ rfl) (by decide) f_RX2_9 rfl dX2_agrees_30 ?_
          refine lv_iload hx hb dX2_agrees_33 (lv_at hl 5 rfl) ?_
          replace hf := bd_so hf
          obtain ⟨x5, h6, hf⟩ := hf
          refine g_iald C hW h6 dX2_agrees_35 ?_
          refine lv_aload_n hx hb dX2_agrees_36 rfl (lv_at hl 1 rfl) ?_
          refine lv_iload hx hb dX2_agrees_37 (lv_at hl 5 rfl) ?_
          refine lv_iload_n hx hb dX2_agrees_39 rfl (lv_at hl 2 rfl) ?_
          replace hf := bd_so hf
          obtain ⟨x8, h7, hf⟩ := hf
          refine g_callVi (ci := 6) (As := [.int v5, .int v2]) (rest := [.int x5]) C g_us hW hl.1 (c_X6_between l E S v5 v2 _ h7) rfl rfl rfl (in_sid _ rfl) k_RX2_45 rfl ⟨rfl, rfl⟩ ⟨Nat.le_of_ble_eq_true rfl, Nat.le_of_ble_eq_true rfl⟩ ⟨Nat.zero_le _, Nat.zero_le _⟩ _ rfl (Nat.le_of_ble_eq_true rfl) dX2_agrees_40 (fun H locs hW => ?_)
          refine lv_iload hx hb dX2_agrees_43 (lv_at hl 4 rfl) ?_
          refine lv_isub hx hb dX2_agrees_45 ?_
          refine lv_icmp_eq (tgt := 51) hx hb dX2_agrees_46 (by decide) (fun c9 => ?_) (fun c9 => ?_)
          · replace hf := ift_ hf c9
            refine lv_iinc (v := (v5 + 1)) (lv' := [(5, .int (v5 + 1)), (0, .ref (E.ad 30)), (1, .ref (E.ad 2)), (2, .int v2), (3, .int v3), (4, .int v4)]) hx hb dX2_agrees_51 hl (k := 5) rfl rfl (by decide) rfl (fun ls hl => ?_)
            refine lv_goto (tgt := 11) hx hb dX2_agrees_54 (by decide) ?_
            exact ih _ _ _ _ hW (lv_sub hl [1, 2, 3, 4, 5, 0] rfl) hf kE kR
          · replace hf := iff_ hf c9
            refine lv_iconst (v := 0) hx hb dX2_agrees_49 (by decide) ?_
            exact kR _ _ _ _ _ hf hW (Or.inl rfl) dX2_agrees_50
  unfold X2_agrees at hf
  refine lv_aload_n hx hb dX2_agrees_0 rfl (lv_at hl 1 rfl) ?_
  refine lv_iload_n hx hb dX2_agrees_1 rfl (lv_at hl 2 rfl) ?_
  refine lv_iload_n hx hb dX2_agrees_2 rfl (lv_at hl 3 rfl) ?_
  replace hf := bd_so hf
  obtain ⟨x2, h1, hf⟩ := hf
  refine g_callVi (ci := 6) (As := [.int a2, .int a3]) (rest := []) C g_us hW hl.1 (c_X6_shortestWire l E S a2 a3 _ h1) rfl rfl rfl (in_sid _ rfl) k_RX2_41 rfl ⟨rfl, rfl⟩ ⟨Nat.le_of_ble_eq_true rfl, Nat.le_of_ble_eq_true rfl⟩ ⟨Nat.zero_le _, Nat.zero_le _⟩ _ rfl (Nat.le_of_ble_eq_true rfl) dX2_agrees_3 (fun H locs hW => ?_)
  refine lv_istore (lv' := [(4, .int x2), (0, .ref (E.ad 30)), (1, .ref (E.ad 2)), (2, .int a2), (3, .int a3)]) hx hb dX2_agrees_6 hl (by decide) rfl (fun ls hl => ?_)
  refine lv_iconst (v := 0) hx hb dX2_agrees_8 (by decide) ?_
  refine lv_istore (lv' := [(5, .int 0), (4, .int x2), (0, .ref (E.ad 30)), (1, .ref (E.ad 2)), (2, .int a2), (3, .int a3)]) hx hb dX2_agrees_9 hl (by decide) rfl (fun ls hl => ?_)
  replace hf := bd_so hf
  obtain ⟨t, h10, hf⟩ := hf
  rcases t with u | x12
  · dsimp only at hf
    have J11 : ∀ (H : Heap) (locs : List Loc) (ls : Array Slot), Ww E S s H locs → lv_has ls 6 [] → W p l e rm_X2_agrees s m args below meth c H locs 0 0 Q (F0 m 57 ls []) := by
      intro H locs ls hW hl
      refine lv_iconst (v := 1) hx hb dX2_agrees_57 (by decide) ?_
      obtain rfl := so1 hf
      exact kR _ _ _ _ hW (Or.inr rfl) dX2_agrees_58
    exact X2_agrees_L11_c _ _ _ _ _ FU _ _ _ _ hW (lv_sub hl [2, 3, 4, 5, 1, 0] rfl) h10 (fun H locs ls e hW hl => by cases e; exact J11 H locs ls hW hl) (fun _ H locs pc ls e hW hz dd => by cases e)
  · dsimp only at hf
    refine X2_agrees_L11_c _ _ _ _ _ FU _ _ _ _ hW (lv_sub hl [2, 3, 4, 5, 1, 0] rfl) h10 (fun H locs ls e hW hl => by cases e) (fun _ H locs pc ls e hW hz dd => ?_)
    cases e
    obtain rfl := so1 hf
    exact kR _ _ _ _ hW hz dd

abbrev rm_X2_firstFailing : Room := { frames := 4, cells := 0, slots := 0, locals := 131 }
set_option maxHeartbeats 4000000 in
set_option maxRecDepth 100000 in
theorem c_X2_firstFailing (l : Launch) (E : En) (S : St) (a2 : Int32) (r : Int32) (S1 : St) (hf : X2_firstFailing S a2 = some (r, S1)) : Mi l E yX2_firstFailing cX2_firstFailing 6 (some .int) rm_X2_firstFailing [.ref (E.ad 30), .ref (E.ad 2), .int a2] S r S1 := by
  refine g_startI (cc := cX2_firstFailing) (n := 6) (by decide) (Nat.le_of_ble_eq_true rfl) ?_
  intro p e s m args below meth c Q H locs C kR hW ls hl
  obtain ⟨⟨hx, hb, hml, hown, hts⟩, hK, hT⟩ := id C
  have hl : lv_has ls 6 [(0, .ref (E.ad 30)), (1, .ref (E.ad 2)), (2, .int a2)] := hl
  have X2_firstFailing_L15_c : ∀ (v2 : Int32) (v3 : Int32) (res : (St) ⊕ (Int32 × St)) (n : Nat) (v4 : Int32) (v5 : Int32) (S : St) (H : Heap) (locs : List Loc) (ls : Array Slot), Ww E S s H locs → lv_has ls 6 [(0, .ref (E.ad 30)), (1, .ref (E.ad 2)), (2, .int v2), (3, .int v3), (4, .int v4), (5, .int v5)] → X2_firstFailing_L15 v2 v3 n v4 v5 S = some res → (∀ (T : St) (H : Heap) (locs : List Loc) (ls : Array Slot), some (.inl T) = some res → Ww E T s H locs → lv_has ls 6 [] → W p l e rm_X2_firstFailing s m args below meth c H locs 0 0 Q (F0 m 101 ls [])) → (∀ (r0 : Int32) (T : St) (H : Heap) (locs : List Loc) (pc : Nat) (ls : Array Slot), some (.inr (r0, T)) = some res → Ww E T s H locs → decode cX2_firstFailing pc = .ok (.ireturn, 1) → W p l e rm_X2_firstFailing s m args below meth c H locs 0 0 Q (F0 m pc ls [.int r0])) → W p l e rm_X2_firstFailing s m args below meth c H locs 0 0 Q (F0 m 15 ls []) := by
    intro v2 v3 res n
    induction n with
    | zero =>
      intro v4 v5 S H locs ls hW hl hf
      cases hf
    | succ n ih =>
      intro v4 v5 S H locs ls hW hl hf kE kR
      unfold X2_firstFailing_L15 at hf
      refine lv_iload hx hb dX2_firstFailing_15 (lv_at hl 5 rfl) ?_
      refine lv_aload_n hx hb dX2_firstFailing_17 rfl (lv_at hl 1 rfl) ?_
      refine g_get (ci := 6) (k := 0) (val := .int (rI S 2 0)) C g_us hW rfl rfl rfl (in_sid _ rfl) (by decide) f_RX2_21 rfl dX2_firstFailing_18 ?_
      refine lv_icmp_ge (tgt := 101) hx hb dX2_firstFailing_21 (by decide) (fun c3 => ?_) (fun c3 => ?_)
      · replace hf := ift_ hf c3
        exact kE _ _ _ _ hf hW (lv_sub hl [] rfl)
      · replace hf := iff_ hf c3
        refine lv_iload_n hx hb dX2_firstFailing_24 rfl (lv_at hl 3 rfl) ?_
        refine lv_if_eq (tgt := 101) hx hb dX2_firstFailing_25 (by decide) (fun c4 => ?_) (fun c4 => ?_)
        · replace hf := ift_ hf c4
          exact kE _ _ _ _ hf hW (lv_sub hl [] rfl)
        · replace hf := iff_ hf c4
          refine lv_iload_n hx hb dX2_firstFailing_28 rfl (lv_at hl 2 rfl) ?_
          refine lv_iload hx hb dX2_firstFailing_29 (lv_at hl 5 rfl) ?_
          refine lv_ishr hx hb dX2_firstFailing_31 ?_
          refine lv_iconst (v := 1) hx hb dX2_firstFailing_32 (by decide) ?_
          refine lv_iand hx hb dX2_firstFailing_33 ?_
          refine lv_if_ne (tgt := 40) hx hb dX2_firstFailing_34 (by decide) (fun c5 => ?_) (fun c5 => ?_)
          · replace hf := iff_ hf c5
            refine lv_aload_n hx hb dX2_firstFailing_40 rfl (lv_at hl 1 rfl) ?_
            refine lv_iload hx hb dX2_firstFailing_41 (lv_at hl 5 rfl) ?_
            replace hf := bd_so hf
            obtain ⟨x7, h6, hf⟩ := hf
            refine g_callVi (ci := 6) (As := [.int v5]) (rest := []) C g_us hW hl.1 (c_X6_isCut l E S v5 _ h6) rfl rfl rfl (in_sid _ rfl) k_RX2_25 rfl ⟨rfl, rfl⟩ ⟨Nat.le_of_ble_eq_true rfl, Nat.le_of_ble_eq_true rfl⟩ ⟨Nat.zero_le _, Nat.zero_le _⟩ _ rfl (Nat.le_of_ble_eq_true rfl) dX2_firstFailing_43 (fun H locs hW => ?_)
            refine lv_if_ne (tgt := 59) hx hb dX2_firstFailing_46 (by decide) (fun c8 => ?_) (fun c8 => ?_)
            · replace hf := iff_ hf c8
              refine lv_iload hx hb dX2_firstFailing_59 (lv_at hl 5 rfl) ?_
              exact kR _ _ _ _ _ _ hf hW dX2_firstFailing_61
            · replace hf := ift_ hf c8
              refine lv_aload_n hx hb dX2_firstFailing_49 rfl (lv_at hl 1 rfl) ?_
              refine lv_iload hx hb dX2_firstFailing_50 (lv_at hl 5 rfl) ?_
              refine lv_iload_n hx hb dX2_firstFailing_52 rfl (lv_at hl 3 rfl) ?_
              replace hf := bd_so hf
              obtain ⟨x10, h9, hf⟩ := hf
              refine g_callVi (ci := 6) (As := [.int v5, .int v3]) (rest := []) C g_us hW hl.1 (c_X6_reachedByAll l E S v5 v3 _ h9) rfl rfl rfl (in_sid _ rfl) k_RX2_29 rfl ⟨rfl, rfl⟩ ⟨Nat.le_of_ble_eq_true rfl, Nat.le_of_ble_eq_true rfl⟩ ⟨Nat.zero_le _, Nat.zero_le _⟩ _ rfl (Nat.le_of_ble_eq_true rfl) dX2_firstFailing_53 (fun H locs hW => ?_)
              refine lv_if_ne (tgt := 62) hx hb dX2_firstFailing_56 (by decide) (fun c11 => ?_) (fun c11 => ?_)
              · replace hf := iff_ hf c11
                refine lv_iload hx hb dX2_firstFailing_62 (lv_at hl 4 rfl) ?_
                refine lv_if_ne (tgt := 81) hx hb dX2_firstFailing_64 (by decide) (fun c12 => ?_) (fun c12 => ?_)
                · replace hf := iff_ hf c12
                  refine lv_aload_n hx hb dX2_firstFailing_81 rfl (lv_at hl 0 rfl) ?_
                  refine lv_aload_n hx hb dX2_firstFailing_82 rfl (lv_at hl 1 rfl) ?_
                  refine lv_iload hx hb dX2_firstFailing_83 (lv_at hl 5 rfl) ?_
                  refine lv_iload_n hx hb dX2_firstFailing_85 rfl (lv_at hl 3 rfl) ?_
                  replace hf := bd_so hf
                  obtain ⟨x14, h13, hf⟩ := hf
                  refine g_callVi (ci := 2) (As := [.ref (E.ad 2), .int v5, .int v3]) (rest := []) C g_us hW hl.1 (c_X2_agrees l E S v5 v3 _ h13) rfl rfl rfl (in_sid _ rfl) k_RX2_37 rfl ⟨rfl, rfl⟩ ⟨Nat.le_of_ble_eq_true rfl, Nat.le_of_ble_eq_true rfl⟩ ⟨Nat.zero_le _, Nat.zero_le _⟩ _ rfl (Nat.le_of_ble_eq_true rfl) dX2_firstFailing_86 (fun H locs hW => ?_)
                  refine lv_if_ne (tgt := 95) hx hb dX2_firstFailing_89 (by decide) (fun c15 => ?_) (fun c15 => ?_)
                  · replace hf := iff_ hf c15
                    refine lv_iinc (v := (v5 + 1)) (lv' := [(5, .int (v5 + 1)), (0, .ref (E.ad 30)), (1, .ref (E.ad 2)), (2, .int v2), (3, .int v3), (4, .int v4)]) hx hb dX2_firstFailing_95 hl (k := 5) rfl rfl (by decide) rfl (fun ls hl => ?_)
                    refine lv_goto (tgt := 15) hx hb dX2_firstFailing_98 (by decide) ?_
                    exact ih _ _ _ _ _ _ hW (lv_sub hl [1, 2, 3, 4, 5, 0] rfl) hf kE kR
                  · replace hf := ift_ hf c15
                    refine lv_iload hx hb dX2_firstFailing_92 (lv_at hl 5 rfl) ?_
                    exact kR _ _ _ _ _ _ hf hW dX2_firstFailing_94
                · replace hf := ift_ hf c12
                  refine lv_aload_n hx hb dX2_firstFailing_67 rfl (lv_at hl 0 rfl) ?_
                  refine lv_aload_n hx hb dX2_firstFailing_68 rfl (lv_at hl 1 rfl) ?_
                  refine lv_iload hx hb dX2_firstFailing_69 (lv_at hl 5 rfl) ?_
                  refine lv_iload_n hx hb dX2_firstFailing_71 rfl (lv_at hl 3 rfl) ?_
                  replace hf := bd_so hf
                  obtain ⟨S17, h16, hf⟩ := hf
                  refine g_callVv (ci := 2) (As := [.ref (E.ad 2), .int v5, .int v3]) (rest := []) C g_us hW hl.1 (c_X2_lead l E S v5 v3 _ h16) rfl rfl rfl (in_sid _ rfl) k_RX2_33 rfl ⟨rfl, rfl⟩ ⟨Nat.le_of_ble_eq_true rfl, Nat.le_of_ble_eq_true rfl⟩ ⟨Nat.zero_le _, Nat.zero_le _⟩ _ rfl (Nat.le_of_ble_eq_true rfl) dX2_firstFailing_72 (fun H locs hW => ?_)
                  refine lv_iconst (v := 1) hx hb dX2_firstFailing_75 (by decide) ?_
                  refine lv_istore (lv' := [(4, .int 1), (0, .ref (E.ad 30)), (1, .ref (E.ad 2)), (2, .int v2), (3, .int v3), (5, .int v5)]) hx hb dX2_firstFailing_76 hl (by decide) rfl (fun ls hl => ?_)
                  refine lv_goto (tgt := 95) hx hb dX2_firstFailing_78 (by decide) ?_
                  refine lv_iinc (v := (v5 + 1)) (lv' := [(5, .int (v5 + 1)), (4, .int 1), (0, .ref (E.ad 30)), (1, .ref (E.ad 2)), (2, .int v2), (3, .int v3)]) hx hb dX2_firstFailing_95 hl (k := 5) rfl rfl (by decide) rfl (fun ls hl => ?_)
                  refine lv_goto (tgt := 15) hx hb dX2_firstFailing_98 (by decide) ?_
                  exact ih _ _ _ _ _ _ hW (lv_sub hl [2, 3, 4, 5, 1, 0] rfl) hf kE kR
              · replace hf := ift_ hf c11
                refine lv_iload hx hb dX2_firstFailing_59 (lv_at hl 5 rfl) ?_
                exact kR _ _ _ _ _ _ hf hW dX2_firstFailing_61
          · replace hf := ift_ hf c5
            refine lv_goto (tgt := 95) hx hb dX2_firstFailing_37 (by decide) ?_
            refine lv_iinc (v := (v5 + 1)) (lv' := [(5, .int (v5 + 1)), (0, .ref (E.ad 30)), (1, .ref (E.ad 2)), (2, .int v2), (3, .int v3), (4, .int v4)]) hx hb dX2_firstFailing_95 hl (k := 5) rfl rfl (by decide) rfl (fun ls hl => ?_)
            refine lv_goto (tgt := 15) hx hb dX2_firstFailing_98 (by decide) ?_
            exact ih _ _ _ _ _ _ hW (lv_sub hl [1, 2, 3, 4, 5, 0] rfl) hf kE kR
  unfold X2_firstFailing at hf
  refine lv_aload_n hx hb dX2_firstFailing_0 rfl (lv_at hl 1 rfl) ?_
  replace hf := bd_so hf
  obtain ⟨x2, h1, hf⟩ := hf
  refine g_callVi (ci := 6) (As := []) (rest := []) C g_us hW hl.1 (c_X6_singers l E S  _ h1) rfl rfl rfl (in_sid _ rfl) k_RX2_15 rfl ⟨rfl, rfl⟩ ⟨Nat.le_of_ble_eq_true rfl, Nat.le_of_ble_eq_true rfl⟩ ⟨Nat.zero_le _, Nat.zero_le _⟩ _ rfl (Nat.le_of_ble_eq_true rfl) dX2_firstFailing_1 (fun H locs hW => ?_)
  refine lv_iload_n hx hb dX2_firstFailing_4 rfl (lv_at hl 2 rfl) ?_
  refine lv_iconst (v := (-1)) hx hb dX2_firstFailing_5 (by decide) ?_
  refine lv_ixor hx hb dX2_firstFailing_6 ?_
  refine lv_iand hx hb dX2_firstFailing_7 ?_
  refine lv_istore_n (lv' := [(3, .int (x2 &&& (a2 ^^^ (-1)))), (0, .ref (E.ad 30)), (1, .ref (E.ad 2)), (2, .int a2)]) hx hb dX2_firstFailing_8 rfl hl (by decide) rfl (fun ls hl => ?_)
  refine lv_iconst (v := 0) hx hb dX2_firstFailing_9 (by decide) ?_
  refine lv_istore (lv' := [(4, .int 0), (3, .int (x2 &&& (a2 ^^^ (-1)))), (0, .ref (E.ad 30)), (1, .ref (E.ad 2)), (2, .int a2)]) hx hb dX2_firstFailing_10 hl (by decide) rfl (fun ls hl => ?_)
  refine lv_iconst (v := 0) hx hb dX2_firstFailing_12 (by decide) ?_
  refine lv_istore (lv' := [(5, .int 0), (4, .int 0), (3, .int (x2 &&& (a2 ^^^ (-1)))), (0, .ref (E.ad 30)), (1, .ref (E.ad 2)), (2, .int a2)]) hx hb dX2_firstFailing_13 hl (by decide) rfl (fun ls hl => ?_)
  replace hf := bd_so hf
  obtain ⟨t, h19, hf⟩ := hf
  rcases t with S18 | ⟨x21, S22⟩
  · dsimp only at hf
    have J20 : ∀ (H : Heap) (locs : List Loc) (ls : Array Slot), Ww E S18 s H locs → lv_has ls 6 [] → W p l e rm_X2_firstFailing s m args below meth c H locs 0 0 Q (F0 m 101 ls []) := by
      intro H locs ls hW hl
      refine lv_bipush (v := (-4)) hx hb dX2_firstFailing_101 (by decide) ?_
      obtain ⟨rfl, rfl⟩ := so2 hf
      exact kR _ _ _ _ hW dX2_firstFailing_103
    exact X2_firstFailing_L15_c _ _ _ FU _ _ _ _ _ _ hW (lv_sub hl [3, 4, 5, 2, 1, 0] rfl) h19 (fun _ H locs ls e hW hl => by cases e; exact J20 H locs ls hW hl) (fun _ _ H locs pc ls e hW dd => by cases e)
  · dsimp only at hf
    refine X2_firstFailing_L15_c _ _ _ FU _ _ _ _ _ _ hW (lv_sub hl [3, 4, 5, 2, 1, 0] rfl) h19 (fun _ H locs ls e hW hl => by cases e) (fun _ _ H locs pc ls e hW dd => ?_)
    cases e
    obtain ⟨rfl, rfl⟩ := so2 hf
    exact kR _ _ _ _ hW dd

abbrev rm_X2_leadOf : Room := { frames := 1, cells := 0, slots := 0, locals := 60 }
set_option maxHeartbeats 4000000 in
set_option maxRecDepth 100000 in
theorem c_X2_leadOf (l : Launch) (E : En) (S : St) (a1 : Int32) (r : Int32) (hf : X2_leadOf S a1 = some r) : Mi l E yX2_leadOf cX2_leadOf 2 (some .int) rm_X2_leadOf [.ref (E.ad 30), .int a1] S r S := by
  refine g_startI (cc := cX2_leadOf) (n := 2) (by decide) (Nat.le_of_ble_eq_true rfl) ?_
  intro p e s m args below meth c Q H locs C kR hW ls hl
  obtain ⟨⟨hx, hb, hml, hown, hts⟩, hK, hT⟩ := id C
  have hl : lv_has ls 2 [(0, .ref (E.ad 30)), (1, .int a1)] := hl
  unfold X2_leadOf at hf
  refine lv_aload_n hx hb dX2_leadOf_0 rfl (lv_at hl 0 rfl) ?_
  refine g_get (ci := 2) (k := 0) (val := .ref (E.ad 31)) C g_us hW rfl rfl rfl (in_sid _ rfl) (by decide) f_RX2_9 rfl dX2_leadOf_1 ?_
  refine lv_iload_n hx hb dX2_leadOf_4 rfl (lv_at hl 1 rfl) ?_
  replace hf := bd_so hf
  obtain ⟨x1, h2, hf⟩ := hf
  refine g_iald C hW h2 dX2_leadOf_5 ?_
  obtain rfl := so1 hf
  exact kR _ _ _ _ hW dX2_leadOf_6

abbrev rm_X8_canStand : Room := { frames := 1, cells := 0, slots := 0, locals := 60 }
set_option maxHeartbeats 4000000 in
set_option maxRecDepth 100000 in
theorem c_X8_canStand (l : Launch) (E : En) (S : St) (a0 : Int64) (a2 : Int32) (r : Int32) (hf : X8_canStand S a0 a2 = some r) : Mi l E yX8_canStand cX8_canStand 5 (some .boolean) rm_X8_canStand [.long a0, .int a2] S r S := by
  refine g_startZ (cc := cX8_canStand) (n := 5) (by decide) (Nat.le_of_ble_eq_true rfl) ?_
  intro p e s m args below meth c Q H locs C kR hW ls hl
  obtain ⟨⟨hx, hb, hml, hown, hts⟩, hK, hT⟩ := id C
  have hl : lv_has ls 5 [(0, .long a0), (2, .int a2)] := hl
  have X8_canStand_L2_c : ∀ (S : St) (v0 : Int64) (v2 : Int32) (res : (Unit) ⊕ (Int32)) (n : Nat) (v3 : Int32) (H : Heap) (locs : List Loc) (ls : Array Slot), Ww E S s H locs → lv_has ls 5 [(0, .long v0), (2, .int v2), (3, .int v3)] → X8_canStand_L2 S v0 v2 n v3 = some res → (∀ (H : Heap) (locs : List Loc) (ls : Array Slot), some (.inl ()) = some res → Ww E S s H locs → lv_has ls 5 [] → W p l e rm_X8_canStand s m args below meth c H locs 0 0 Q (F0 m 42 ls [])) → (∀ (r0 : Int32) (H : Heap) (locs : List Loc) (pc : Nat) (ls : Array Slot), some (.inr r0) = some res → Ww E S s H locs → (r0 = 0 ∨ r0 = 1) → decode cX8_canStand pc = .ok (.ireturn, 1) → W p l e rm_X8_canStand s m args below meth c H locs 0 0 Q (F0 m pc ls [.int r0])) → W p l e rm_X8_canStand s m args below meth c H locs 0 0 Q (F0 m 2 ls []) := by
    intro S v0 v2 res n
    induction n with
    | zero =>
      intro v3 H locs ls hW hl hf
      cases hf
    | succ n ih =>
      intro v3 H locs ls hW hl hf kE kR
      unfold X8_canStand_L2 at hf
      refine lv_iload_n hx hb dX8_canStand_2 rfl (lv_at hl 2 rfl) ?_
      refine lv_iload_n hx hb dX8_canStand_3 rfl (lv_at hl 1 rfl) ?_
      refine lv_icmp_ge (tgt := 42) hx hb dX8_canStand_4 (by decide) (fun c1 => ?_) (fun c1 => ?_)
      · replace hf := ift_ hf c1
        exact kE  _ _ _ hf hW (lv_sub hl [] rfl)
      · replace hf := iff_ hf c1
        refine lv_lload_n hx hb dX8_canStand_7 rfl (lv_at hl 0 rfl) ?_
        refine lv_bipush (v := 8) hx hb dX8_canStand_8 (by decide) ?_
        refine lv_iload_n hx hb dX8_canStand_10 rfl (lv_at hl 2 rfl) ?_
        refine lv_imul hx hb dX8_canStand_11 ?_
        refine lv_lshr (v := (v0 >>> (((8 * v3) : Int32).toInt64 &&& 63))) hx hb dX8_canStand_12 rfl ?_
        refine lv_l2i (v := ((v0 >>> (((8 * v3) : Int32).toInt64 &&& 63)) : Int64).toInt32) hx hb dX8_canStand_13 rfl ?_
        refine lv_sipush (v := 255) hx hb dX8_canStand_14 (by decide) ?_
        refine lv_iand hx hb dX8_canStand_17 ?_
        refine lv_istore (lv' := [(4, .int (((v0 >>> (((8 * v3) : Int32).toInt64 &&& 63)) : Int64).toInt32 &&& 255)), (0, .long v0), (2, .int v2), (3, .int v3)]) hx hb dX8_canStand_18 hl (by decide) rfl (fun ls hl => ?_)
        refine lv_iload hx hb dX8_canStand_20 (lv_at hl 0 rfl) ?_
        refine lv_bipush (v := 32) hx hb dX8_canStand_22 (by decide) ?_
        refine lv_icmp_lt (tgt := 34) hx hb dX8_canStand_24 (by decide) (fun c2 => ?_) (fun c2 => ?_)
        · replace hf := ift_ hf c2
          refine lv_iconst (v := 0) hx hb dX8_canStand_34 (by decide) ?_
          exact kR _ _ _ _ _ hf hW (Or.inl rfl) dX8_canStand_35
        · replace hf := iff_ hf c2
          refine lv_iload hx hb dX8_canStand_27 (lv_at hl 0 rfl) ?_
          refine lv_bipush (v := 126) hx hb dX8_canStand_29 (by decide) ?_
          refine lv_icmp_le (tgt := 36) hx hb dX8_canStand_31 (by decide) (fun c3 => ?_) (fun c3 => ?_)
          · replace hf := ift_ hf c3
            refine lv_iinc (v := (v3 + 1)) (lv' := [(3, .int (v3 + 1)), (4, .int (((v0 >>> (((8 * v3) : Int32).toInt64 &&& 63)) : Int64).toInt32 &&& 255)), (0, .long v0), (2, .int v2)]) hx hb dX8_canStand_36 hl (k := 3) rfl rfl (by decide) rfl (fun ls hl => ?_)
            refine lv_goto (tgt := 2) hx hb dX8_canStand_39 (by decide) ?_
            exact ih _ _ _ _ hW (lv_sub hl [2, 3, 0] rfl) hf kE kR
          · replace hf := iff_ hf c3
            refine lv_iconst (v := 0) hx hb dX8_canStand_34 (by decide) ?_
            exact kR _ _ _ _ _ hf hW (Or.inl rfl) dX8_canStand_35
  unfold X8_canStand at hf
  refine lv_iconst (v := 0) hx hb dX8_canStand_0 (by decide) ?_
  refine lv_istore_n (lv' := [(3, .int 0), (0, .long a0), (2, .int a2)]) hx hb dX8_canStand_1 rfl hl (by decide) rfl (fun ls hl => ?_)
  replace hf := bd_so hf
  obtain ⟨t, h4, hf⟩ := hf
  rcases t with u | x6
  · dsimp only at hf
    have J5 : ∀ (H : Heap) (locs : List Loc) (ls : Array Slot), Ww E S s H locs → lv_has ls 5 [] → W p l e rm_X8_canStand s m args below meth c H locs 0 0 Q (F0 m 42 ls []) := by
      intro H locs ls hW hl
      refine lv_iconst (v := 1) hx hb dX8_canStand_42 (by decide) ?_
      obtain rfl := so1 hf
      exact kR _ _ _ _ hW (Or.inr rfl) dX8_canStand_43
    exact X8_canStand_L2_c _ _ _ _ FU _ _ _ _ hW (lv_sub hl [1, 2, 0] rfl) h4 (fun H locs ls e hW hl => by cases e; exact J5 H locs ls hW hl) (fun _ H locs pc ls e hW hz dd => by cases e)
  · dsimp only at hf
    refine X8_canStand_L2_c _ _ _ _ FU _ _ _ _ hW (lv_sub hl [1, 2, 0] rfl) h4 (fun H locs ls e hW hl => by cases e) (fun _ H locs pc ls e hW hz dd => ?_)
    cases e
    obtain rfl := so1 hf
    exact kR _ _ _ _ hW hz dd

abbrev rm_X8_append : Room := { frames := 1, cells := 0, slots := 0, locals := 60 }
set_option maxHeartbeats 4000000 in
set_option maxRecDepth 100000 in
theorem c_X8_append (l : Launch) (E : En) (S : St) (a1 : Int64) (a3 : Int32) (r : Int32) (S1 : St) (hf : X8_append S a1 a3 = some (r, S1)) : Mi l E yX8_append cX8_append 5 (some .int) rm_X8_append [.ref (E.ad 11), .long a1, .int a3] S r S1 := by
  refine g_startI (cc := cX8_append) (n := 5) (by decide) (Nat.le_of_ble_eq_true rfl) ?_
  intro p e s m args below meth c Q H locs C kR hW ls hl
  obtain ⟨⟨hx, hb, hml, hown, hts⟩, hK, hT⟩ := id C
  have hl : lv_has ls 5 [(0, .ref (E.ad 11)), (1, .long a1), (3, .int a3)] := hl
  have X8_append_L5_c : ∀ (v1 : Int64) (res : St) (n : Nat) (v4 : Int32) (S : St) (H : Heap) (locs : List Loc) (ls : Array Slot), Ww E S s H locs → lv_has ls 5 [(0, .ref (E.ad 11)), (1, .long v1), (4, .int v4)] → X8_append_L5 v1 n v4 S = some res → (∀ (T : St) (H : Heap) (locs : List Loc) (ls : Array Slot), some T = some res → Ww E T s H locs → lv_has ls 5 [(0, .ref (E.ad 11))] → W p l e rm_X8_append s m args below meth c H locs 0 0 Q (F0 m 44 ls [])) → W p l e rm_X8_append s m args below meth c H locs 0 0 Q (F0 m 5 ls []) := by
    intro v1 res n
    induction n with
    | zero =>
      intro v4 S H locs ls hW hl hf
      cases hf
    | succ n ih =>
      intro v4 S H locs ls hW hl hf kE
      unfold X8_append_L5 at hf
      refine lv_iload hx hb dX8_append_5 (lv_at hl 2 rfl) ?_
      refine lv_if_lt (tgt := 44) hx hb dX8_append_7 (by decide) (fun c1 => ?_) (fun c1 => ?_)
      · replace hf := ift_ hf c1
        exact kE _ _ _ _ hf hW (lv_sub hl [0] rfl)
      · replace hf := iff_ hf c1
        refine lv_aload_n hx hb dX8_append_10 rfl (lv_at hl 0 rfl) ?_
        refine g_get (ci := 8) (k := 2) (val := .ref (E.ad 14)) C g_us hW rfl rfl rfl (in_sid _ rfl) (by decide) f_RX8_18 rfl dX8_append_11 ?_
        refine lv_aload_n hx hb dX8_append_14 rfl (lv_at hl 0 rfl) ?_
        refine g_get (ci := 8) (k := 0) (val := .int (rI S 11 0)) C g_us hW rfl rfl rfl (in_sid _ rfl) (by decide) f_RX8_22 rfl dX8_append_15 ?_
        refine lv_lload_n hx hb dX8_append_18 rfl (lv_at hl 1 rfl) ?_
        refine lv_bipush (v := 8) hx hb dX8_append_19 (by decide) ?_
        refine lv_iload hx hb dX8_append_21 (lv_at hl 2 rfl) ?_
        refine lv_imul hx hb dX8_append_23 ?_
        refine lv_lshr (v := (v1 >>> (((8 * v4) : Int32).toInt64 &&& 63))) hx hb dX8_append_24 rfl ?_
        refine lv_l2i (v := ((v1 >>> (((8 * v4) : Int32).toInt64 &&& 63)) : Int64).toInt32) hx hb dX8_append_25 rfl ?_
        refine lv_i2b (v := (((v1 >>> (((8 * v4) : Int32).toInt64 &&& 63)) : Int64).toInt32 : Int32).toInt8.toInt32) hx hb dX8_append_26 rfl ?_
        replace hf := bd_so hf
        obtain ⟨S2, h3, hf⟩ := hf
        refine g_bast C hW h3 dX8_append_27 (fun H locs hW => ?_)
        refine lv_aload_n hx hb dX8_append_28 rfl (lv_at hl 0 rfl) ?_
        refine lv_dup hx hb dX8_append_29 rfl ?_
        refine g_get (ci := 8) (k := 0) (val := .int (rI S2 11 0)) C g_us hW rfl rfl rfl (in_sid _ rfl) (by decide) f_RX8_22 rfl dX8_append_30 ?_
        refine lv_iconst (v := 1) hx hb dX8_append_33 (by decide) ?_
        refine lv_iadd hx hb dX8_append_34 ?_
        replace hf := bd_so hf
        obtain ⟨S4, h5, hf⟩ := hf
        refine g_putI (ci := 8) (k := 0) C g_us hW rfl rfl rfl (in_sid _ rfl) (by decide) f_RX8_22 rfl rfl rfl h5 dX8_append_35 (fun H locs hW => ?_)
        refine lv_iinc (v := (v4 + (-1))) (lv' := [(4, .int (v4 + (-1))), (0, .ref (E.ad 11)), (1, .long v1)]) hx hb dX8_append_38 hl (k := 2) rfl rfl (by decide) rfl (fun ls hl => ?_)
        refine lv_goto (tgt := 5) hx hb dX8_append_41 (by decide) ?_
        exact ih _ _ _ _ _ hW (lv_sub hl [1, 2, 0] rfl) hf kE
  unfold X8_append at hf
  refine lv_iload_n hx hb dX8_append_0 rfl (lv_at hl 2 rfl) ?_
  refine lv_iconst (v := 1) hx hb dX8_append_1 (by decide) ?_
  refine lv_isub hx hb dX8_append_2 ?_
  refine lv_istore (lv' := [(4, .int (a3 - 1)), (0, .ref (E.ad 11)), (1, .long a1), (3, .int a3)]) hx hb dX8_append_3 hl (by decide) rfl (fun ls hl => ?_)
  replace hf := bd_so hf
  obtain ⟨S6, h7, hf⟩ := hf
  have J8 : ∀ (H : Heap) (locs : List Loc) (ls : Array Slot), Ww E S6 s H locs → lv_has ls 5 [(0, .ref (E.ad 11))] → W p l e rm_X8_append s m args below meth c H locs 0 0 Q (F0 m 44 ls []) := by
    intro H locs ls hW hl
    refine lv_aload_n hx hb dX8_append_44 rfl (lv_at hl 0 rfl) ?_
    refine g_get (ci := 8) (k := 0) (val := .int (rI S6 11 0)) C g_us hW rfl rfl rfl (in_sid _ rfl) (by decide) f_RX8_22 rfl dX8_append_45 ?_
    obtain ⟨rfl, rfl⟩ := so2 hf
    exact kR _ _ _ _ hW dX8_append_48
  exact X8_append_L5_c _ _ FU _ _ _ _ _ hW (lv_sub hl [1, 2, 0] rfl) h7 (fun _ H locs ls e hW hl => by cases e; exact J8 H locs ls hW hl)

abbrev rm_X8_peek : Room := { frames := 1, cells := 0, slots := 0, locals := 60 }
set_option maxHeartbeats 4000000 in
set_option maxRecDepth 100000 in
theorem c_X8_peek (l : Launch) (E : En) (S : St) (r : Int32) (S1 : St) (hf : X8_peek S  = some (r, S1)) : Mi l E yX8_peek cX8_peek 1 (some .int) rm_X8_peek [.ref (E.ad 11)] S r S1 := by
  refine g_startI (cc := cX8_peek) (n := 1) (by decide) (Nat.le_of_ble_eq_true rfl) ?_
  intro p e s m args below meth c Q H locs C kR hW ls hl
  obtain ⟨⟨hx, hb, hml, hown, hts⟩, hK, hT⟩ := id C
  have hl : lv_has ls 1 [(0, .ref (E.ad 11))] := hl
  have X8_peek_L0_c : ∀ (res : St) (n : Nat) (S : St) (H : Heap) (locs : List Loc) (ls : Array Slot), Ww E S s H locs → lv_has ls 1 [(0, .ref (E.ad 11))] → X8_peek_L0  n  S = some res → (∀ (T : St) (H : Heap) (locs : List Loc) (ls : Array Slot), some T = some res → Ww E T s H locs → lv_has ls 1 [(0, .ref (E.ad 11))] → W p l e rm_X8_peek s m args below meth c H locs 0 0 Q (F0 m 38 ls [])) → W p l e rm_X8_peek s m args below meth c H locs 0 0 Q (F0 m 0 ls []) := by
    intro  res n
    induction n with
    | zero =>
      intro  S H locs ls hW hl hf
      cases hf
    | succ n ih =>
      intro  S H locs ls hW hl hf kE
      unfold X8_peek_L0 at hf
      refine lv_aload_n hx hb dX8_peek_0 rfl (lv_at hl 0 rfl) ?_
      refine g_get (ci := 8) (k := 3) (val := .int (rI S 11 3)) C g_us hW rfl rfl rfl (in_sid _ rfl) (by decide) f_RX8_27 rfl dX8_peek_1 ?_
      refine lv_aload_n hx hb dX8_peek_4 rfl (lv_at hl 0 rfl) ?_
      refine g_get (ci := 8) (k := 0) (val := .int (rI S 11 0)) C g_us hW rfl rfl rfl (in_sid _ rfl) (by decide) f_RX8_22 rfl dX8_peek_5 ?_
      refine lv_icmp_ge (tgt := 38) hx hb dX8_peek_8 (by decide) (fun c1 => ?_) (fun c1 => ?_)
      · replace hf := ift_ hf c1
        exact kE _ _ _ _ hf hW (lv_sub hl [0] rfl)
      · replace hf := iff_ hf c1
        refine lv_aload_n hx hb dX8_peek_11 rfl (lv_at hl 0 rfl) ?_
        refine g_get (ci := 8) (k := 2) (val := .ref (E.ad 14)) C g_us hW rfl rfl rfl (in_sid _ rfl) (by decide) f_RX8_18 rfl dX8_peek_12 ?_
        refine lv_aload_n hx hb dX8_peek_15 rfl (lv_at hl 0 rfl) ?_
        refine g_get (ci := 8) (k := 3) (val := .int (rI S 11 3)) C g_us hW rfl rfl rfl (in_sid _ rfl) (by decide) f_RX8_27 rfl dX8_peek_16 ?_
        replace hf := bd_so hf
        obtain ⟨x2, h3, hf⟩ := hf
        refine g_bald C hW h3 dX8_peek_19 ?_
        refine lv_bipush (v := 32) hx hb dX8_peek_20 (by decide) ?_
        refine lv_icmp_ne (tgt := 38) hx hb dX8_peek_22 (by decide) (fun c4 => ?_) (fun c4 => ?_)
        · replace hf := iff_ hf c4
          exact kE _ _ _ _ hf hW (lv_sub hl [0] rfl)
        · replace hf := ift_ hf c4
          refine lv_aload_n hx hb dX8_peek_25 rfl (lv_at hl 0 rfl) ?_
          refine lv_dup hx hb dX8_peek_26 rfl ?_
          refine g_get (ci := 8) (k := 3) (val := .int (rI S 11 3)) C g_us hW rfl rfl rfl (in_sid _ rfl) (by decide) f_RX8_27 rfl dX8_peek_27 ?_
          refine lv_iconst (v := 1) hx hb dX8_peek_30 (by decide) ?_
          refine lv_iadd hx hb dX8_peek_31 ?_
          replace hf := bd_so hf
          obtain ⟨S5, h6, hf⟩ := hf
          refine g_putI (ci := 8) (k := 3) C g_us hW rfl rfl rfl (in_sid _ rfl) (by decide) f_RX8_27 rfl rfl rfl h6 dX8_peek_32 (fun H locs hW => ?_)
          refine lv_goto (tgt := 0) hx hb dX8_peek_35 (by decide) ?_
          exact ih _ _ _ _ hW (lv_sub hl [0] rfl) hf kE
  unfold X8_peek at hf
  replace hf := bd_so hf
  obtain ⟨S7, h8, hf⟩ := hf
  have J12 : ∀ (H : Heap) (locs : List Loc) (ls : Array Slot), Ww E S7 s H locs → lv_has ls 1 [(0, .ref (E.ad 11))] → W p l e rm_X8_peek s m args below meth c H locs 0 0 Q (F0 m 38 ls []) := by
    intro H locs ls hW hl
    refine lv_aload_n hx hb dX8_peek_38 rfl (lv_at hl 0 rfl) ?_
    refine g_get (ci := 8) (k := 3) (val := .int (rI S7 11 3)) C g_us hW rfl rfl rfl (in_sid _ rfl) (by decide) f_RX8_27 rfl dX8_peek_39 ?_
    refine lv_aload_n hx hb dX8_peek_42 rfl (lv_at hl 0 rfl) ?_
    refine g_get (ci := 8) (k := 0) (val := .int (rI S7 11 0)) C g_us hW rfl rfl rfl (in_sid _ rfl) (by decide) f_RX8_22 rfl dX8_peek_43 ?_
    refine lv_icmp_ge (tgt := 61) hx hb dX8_peek_46 (by decide) (fun c9 => ?_) (fun c9 => ?_)
    · replace hf := ift_ hf c9
      refine lv_iconst (v := (-1)) hx hb dX8_peek_61 (by decide) ?_
      obtain ⟨rfl, rfl⟩ := so2 hf
      exact kR _ _ _ _ hW dX8_peek_62
    · replace hf := iff_ hf c9
      refine lv_aload_n hx hb dX8_peek_49 rfl (lv_at hl 0 rfl) ?_
      refine g_get (ci := 8) (k := 2) (val := .ref (E.ad 14)) C g_us hW rfl rfl rfl (in_sid _ rfl) (by decide) f_RX8_18 rfl dX8_peek_50 ?_
      refine lv_aload_n hx hb dX8_peek_53 rfl (lv_at hl 0 rfl) ?_
      refine g_get (ci := 8) (k := 3) (val := .int (rI S7 11 3)) C g_us hW rfl rfl rfl (in_sid _ rfl) (by decide) f_RX8_27 rfl dX8_peek_54 ?_
      replace hf := bd_so hf
      obtain ⟨x10, h11, hf⟩ := hf
      refine g_bald C hW h11 dX8_peek_57 ?_
      refine lv_goto (tgt := 62) hx hb dX8_peek_58 (by decide) ?_
      obtain ⟨rfl, rfl⟩ := so2 hf
      exact kR _ _ _ _ hW dX8_peek_62
  exact X8_peek_L0_c _ FU _ _ _ _ hW (lv_sub hl [0] rfl) h8 (fun _ H locs ls e hW hl => by cases e; exact J12 H locs ls hW hl)

abbrev rm_X8_readSound : Room := { frames := 2, cells := 0, slots := 0, locals := 84 }
set_option maxHeartbeats 4000000 in
set_option maxRecDepth 100000 in
theorem c_X8_readSound (l : Launch) (E : En) (S : St) (a1 : Int32) (r : Int32) (S1 : St) (hf : X8_readSound S a1 = some (r, S1)) : Mi l E yX8_readSound cX8_readSound 7 (some .boolean) rm_X8_readSound [.ref (E.ad 11), .int a1] S r S1 := by
  refine g_startZ (cc := cX8_readSound) (n := 7) (by decide) (Nat.le_of_ble_eq_true rfl) ?_
  intro p e s m args below meth c Q H locs C kR hW ls hl
  obtain ⟨⟨hx, hb, hml, hown, hts⟩, hK, hT⟩ := id C
  have hl : lv_has ls 7 [(0, .ref (E.ad 11)), (1, .int a1)] := hl
  unfold X8_readSound at hf
  refine lv_aload_n hx hb dX8_readSound_0 rfl (lv_at hl 0 rfl) ?_
  replace hf := bd_so hf
  obtain ⟨⟨x2, S3⟩, h1, hf⟩ := hf
  dsimp only at hf
  refine g_callVi (ci := 8) (As := []) (rest := []) C g_us hW hl.1 (c_X8_peek l E S  _ _ h1) rfl rfl rfl (in_sid _ rfl) k_RX8_30 rfl ⟨rfl, rfl⟩ ⟨Nat.le_of_ble_eq_true rfl, Nat.le_of_ble_eq_true rfl⟩ ⟨Nat.zero_le _, Nat.zero_le _⟩ _ rfl (Nat.le_of_ble_eq_true rfl) dX8_readSound_1 (fun H locs hW => ?_)
  refine lv_istore_n (lv' := [(2, .int x2), (0, .ref (E.ad 11)), (1, .int a1)]) hx hb dX8_readSound_4 rfl hl (by decide) rfl (fun ls hl => ?_)
  refine lv_iload_n hx hb dX8_readSound_5 rfl (lv_at hl 0 rfl) ?_
  refine lv_bipush (v := 45) hx hb dX8_readSound_6 (by decide) ?_
  refine lv_icmp_eq (tgt := 25) hx hb dX8_readSound_8 (by decide) (fun c4 => ?_) (fun c4 => ?_)
  · replace hf := ift_ hf c4
    refine lv_aload_n hx hb dX8_readSound_25 rfl (lv_at hl 1 rfl) ?_
    refine g_get (ci := 8) (k := 3) (val := .int (rI S3 11 3)) C g_us hW rfl rfl rfl (in_sid _ rfl) (by decide) f_RX8_27 rfl dX8_readSound_26 ?_
    refine lv_istore_n (lv' := [(3, .int (rI S3 11 3)), (2, .int x2), (0, .ref (E.ad 11)), (1, .int a1)]) hx hb dX8_readSound_29 rfl hl (by decide) rfl (fun ls hl => ?_)
    refine lv_aload_n hx hb dX8_readSound_30 rfl (lv_at hl 2 rfl) ?_
    refine lv_dup hx hb dX8_readSound_31 rfl ?_
    refine g_get (ci := 8) (k := 3) (val := .int (rI S3 11 3)) C g_us hW rfl rfl rfl (in_sid _ rfl) (by decide) f_RX8_27 rfl dX8_readSound_32 ?_
    refine lv_iconst (v := 1) hx hb dX8_readSound_35 (by decide) ?_
    refine lv_iadd hx hb dX8_readSound_36 ?_
    replace hf := bd_so hf
    obtain ⟨S5, h6, hf⟩ := hf
    refine g_putI (ci := 8) (k := 3) C g_us hW rfl rfl rfl (in_sid _ rfl) (by decide) f_RX8_27 rfl rfl rfl h6 dX8_readSound_37 (fun H locs hW => ?_)
    refine lv_iconst (v := 1) hx hb dX8_readSound_40 (by decide) ?_
    refine lv_istore (lv' := [(4, .int 1), (3, .int (rI S3 11 3)), (2, .int x2), (0, .ref (E.ad 11)), (1, .int a1)]) hx hb dX8_readSound_41 hl (by decide) rfl (fun ls hl => ?_)
    refine lv_aload_n hx hb dX8_readSound_43 rfl (lv_at hl 3 rfl) ?_
    replace hf := bd_so hf
    obtain ⟨⟨x8, S9⟩, h7, hf⟩ := hf
    dsimp only at hf
    refine g_callVi (ci := 8) (As := []) (rest := []) C g_us hW hl.1 (c_X8_peek l E S5  _ _ h7) rfl rfl rfl (in_sid _ rfl) k_RX8_30 rfl ⟨rfl, rfl⟩ ⟨Nat.le_of_ble_eq_true rfl, Nat.le_of_ble_eq_true rfl⟩ ⟨Nat.zero_le _, Nat.zero_le _⟩ _ rfl (Nat.le_of_ble_eq_true rfl) dX8_readSound_44 (fun H locs hW => ?_)
    refine lv_istore (lv' := [(5, .int x8), (4, .int 1), (3, .int (rI S3 11 3)), (2, .int x2), (0, .ref (E.ad 11)), (1, .int a1)]) hx hb dX8_readSound_47 hl (by decide) rfl (fun ls hl => ?_)
    refine lv_iload hx hb dX8_readSound_49 (lv_at hl 0 rfl) ?_
    refine lv_bipush (v := 49) hx hb dX8_readSound_51 (by decide) ?_
    replace hf := bd_so hf
    obtain ⟨⟨x11, S12⟩, h13, hf⟩ := hf
    dsimp only at hf
    have J14 : ∀ (H : Heap) (locs : List Loc) (ls : Array Slot), Ww E S12 s H locs → lv_has ls 7 [(0, .ref (E.ad 11)), (1, .int a1), (2, .int x2), (3, .int (rI S3 11 3)), (4, .int x11)] → W p l e rm_X8_readSound s m args below meth c H locs 0 0 Q (F0 m 80 ls []) := by
      intro H locs ls hW hl
      refine lv_iload_n hx hb dX8_readSound_80 rfl (lv_at hl 1 rfl) ?_
      refine lv_bipush (v := 40) hx hb dX8_readSound_81 (by decide) ?_
      refine lv_icmp_eq (tgt := 101) hx hb dX8_readSound_83 (by decide) (fun c15 => ?_) (fun c15 => ?_)
      · replace hf := ift_ hf c15
        refine lv_aload_n hx hb dX8_readSound_101 rfl (lv_at hl 0 rfl) ?_
        refine lv_iload_n hx hb dX8_readSound_102 rfl (lv_at hl 3 rfl) ?_
        replace hf := bd_so hf
        obtain ⟨S16, h17, hf⟩ := hf
        refine g_putI (ci := 8) (k := 3) C g_us hW rfl rfl rfl (in_sid _ rfl) (by decide) f_RX8_27 rfl rfl rfl h17 dX8_readSound_103 (fun H locs hW => ?_)
        refine lv_iconst (v := 0) hx hb dX8_readSound_106 (by decide) ?_
        obtain ⟨rfl, rfl⟩ := so2 hf
        exact kR _ _ _ _ hW (Or.inl rfl) dX8_readSound_107
      · replace hf := iff_ hf c15
        refine lv_aload_n hx hb dX8_readSound_86 rfl (lv_at hl 0 rfl) ?_
        refine g_get (ci := 8) (k := 1) (val := .ref (E.ad 12)) C g_us hW rfl rfl rfl (in_sid _ rfl) (by decide) f_RX8_12 rfl dX8_readSound_87 ?_
        refine g_get (ci := 5) (k := 0) (val := .int (rI S12 12 0)) C g_us hW rfl rfl rfl (in_sid _ rfl) (by decide) f_RX8_26 rfl dX8_readSound_90 ?_
        refine lv_iload hx hb dX8_readSound_93 (lv_at hl 4 rfl) ?_
        refine lv_iadd hx hb dX8_readSound_95 ?_
        refine lv_bipush (v := 64) hx hb dX8_readSound_96 (by decide) ?_
        refine lv_icmp_le (tgt := 108) hx hb dX8_readSound_98 (by decide) (fun c18 => ?_) (fun c18 => ?_)
        · replace hf := ift_ hf c18
          refine lv_aload_n hx hb dX8_readSound_108 rfl (lv_at hl 0 rfl) ?_
          replace hf := bd_so hf
          obtain ⟨⟨x20, S21⟩, h19, hf⟩ := hf
          dsimp only at hf
          refine g_callVi (ci := 8) (As := []) (rest := []) C g_us hW hl.1 (c_X8_peek l E S12  _ _ h19) rfl rfl rfl (in_sid _ rfl) k_RX8_30 rfl ⟨rfl, rfl⟩ ⟨Nat.le_of_ble_eq_true rfl, Nat.le_of_ble_eq_true rfl⟩ ⟨Nat.zero_le _, Nat.zero_le _⟩ _ rfl (Nat.le_of_ble_eq_true rfl) dX8_readSound_109 (fun H locs hW => ?_)
          refine lv_bipush (v := 46) hx hb dX8_readSound_112 (by decide) ?_
          replace hf := bd_so hf
          obtain ⟨x23, h24, hf⟩ := hf
          have J25 : ∀ (H : Heap) (locs : List Loc) (ls : Array Slot), Ww E S21 s H locs → lv_has ls 7 [(0, .ref (E.ad 11)), (2, .int x2), (4, .int x11)] → W p l e rm_X8_readSound s m args below meth c H locs 0 0 Q (F0 m 122 ls [.int x23]) := by
            intro H locs ls hW hl
            refine lv_istore (lv' := [(6, .int x23), (0, .ref (E.ad 11)), (2, .int x2), (4, .int x11)]) hx hb dX8_readSound_122 hl (by decide) rfl (fun ls hl => ?_)
            refine lv_iload hx hb dX8_readSound_124 (lv_at hl 0 rfl) ?_
            replace hf := bd_so hf
            obtain ⟨S27, h28, hf⟩ := hf
            have J29 : ∀ (H : Heap) (locs : List Loc) (ls : Array Slot), Ww E S27 s H locs → lv_has ls 7 [(0, .ref (E.ad 11)), (2, .int x2), (4, .int x11), (6, .int x23)] → W p l e rm_X8_readSound s m args below meth c H locs 0 0 Q (F0 m 139 ls []) := by
              intro H locs ls hW hl
              refine lv_aload_n hx hb dX8_readSound_139 rfl (lv_at hl 0 rfl) ?_
              refine g_get (ci := 8) (k := 1) (val := .ref (E.ad 12)) C g_us hW rfl rfl rfl (in_sid _ rfl) (by decide) f_RX8_12 rfl dX8_readSound_140 ?_
              refine lv_iload_n hx hb dX8_readSound_143 rfl (lv_at hl 1 rfl) ?_
              refine lv_bipush (v := 45) hx hb dX8_readSound_144 (by decide) ?_
              replace hf := bd_so hf
              obtain ⟨x31, h32, hf⟩ := hf
              have J33 : ∀ (H : Heap) (locs : List Loc) (ls : Array Slot), Ww E S27 s H locs → lv_has ls 7 [(4, .int x11), (6, .int x23)] → W p l e rm_X8_readSound s m args below meth c H locs 0 0 Q (F0 m 159 ls [.int x31, .ref (E.ad 12)]) := by
                intro H locs ls hW hl
                refine lv_iload hx hb dX8_readSound_159 (lv_at hl 0 rfl) ?_
                refine lv_iload hx hb dX8_readSound_161 (lv_at hl 1 rfl) ?_
                replace hf := bd_so hf
                obtain ⟨S35, h34, hf⟩ := hf
                refine g_callVv (ci := 5) (As := [.int x31, .int x11, .int x23]) (rest := []) C g_us hW hl.1 (c_X5_append l E S27 x31 x11 x23 _ h34) rfl rfl rfl (in_sid _ rfl) k_RX8_38 rfl ⟨rfl, rfl⟩ ⟨Nat.le_of_ble_eq_true rfl, Nat.le_of_ble_eq_true rfl⟩ ⟨Nat.zero_le _, Nat.zero_le _⟩ _ rfl (Nat.le_of_ble_eq_true rfl) dX8_readSound_163 (fun H locs hW => ?_)
                refine lv_iconst (v := 1) hx hb dX8_readSound_166 (by decide) ?_
                obtain ⟨rfl, rfl⟩ := so2 hf
                exact kR _ _ _ _ hW (Or.inr rfl) dX8_readSound_167
              clear hf
              have hf := h32
              clear h32
              refine lv_icmp_ne (tgt := 153) hx hb dX8_readSound_146 (by decide) (fun c30 => ?_) (fun c30 => ?_)
              · replace hf := iff_ hf c30
                refine lv_iload_n hx hb dX8_readSound_153 rfl (lv_at hl 1 rfl) ?_
                refine lv_bipush (v := 97) hx hb dX8_readSound_154 (by decide) ?_
                refine lv_isub hx hb dX8_readSound_156 ?_
                refine lv_iconst (v := 1) hx hb dX8_readSound_157 (by decide) ?_
                refine lv_iadd hx hb dX8_readSound_158 ?_
                obtain rfl := so1 hf
                exact J33 _ _ _ hW (lv_sub hl [2, 3] rfl)
              · replace hf := ift_ hf c30
                refine lv_iconst (v := 0) hx hb dX8_readSound_149 (by decide) ?_
                refine lv_goto (tgt := 159) hx hb dX8_readSound_150 (by decide) ?_
                obtain rfl := so1 hf
                exact J33 _ _ _ hW (lv_sub hl [2, 3] rfl)
            clear hf
            have hf := h28
            clear h28
            refine lv_if_eq (tgt := 139) hx hb dX8_readSound_126 (by decide) (fun c26 => ?_) (fun c26 => ?_)
            · replace hf := ift_ hf c26
              obtain rfl := so1 hf
              exact J29 _ _ _ hW (lv_sub hl [1, 2, 3, 0] rfl)
            · replace hf := iff_ hf c26
              refine lv_aload_n hx hb dX8_readSound_129 rfl (lv_at hl 1 rfl) ?_
              refine lv_dup hx hb dX8_readSound_130 rfl ?_
              refine g_get (ci := 8) (k := 3) (val := .int (rI S21 11 3)) C g_us hW rfl rfl rfl (in_sid _ rfl) (by decide) f_RX8_27 rfl dX8_readSound_131 ?_
              refine lv_iconst (v := 1) hx hb dX8_readSound_134 (by decide) ?_
              refine lv_iadd hx hb dX8_readSound_135 ?_
              replace hf := bd_so hf
              obtain ⟨S36, h37, hf⟩ := hf
              refine g_putI (ci := 8) (k := 3) C g_us hW rfl rfl rfl (in_sid _ rfl) (by decide) f_RX8_27 rfl rfl rfl h37 dX8_readSound_136 (fun H locs hW => ?_)
              obtain rfl := so1 hf
              exact J29 _ _ _ hW (lv_sub hl [1, 2, 3, 0] rfl)
          clear hf
          have hf := h24
          clear h24
          refine lv_icmp_ne (tgt := 121) hx hb dX8_readSound_114 (by decide) (fun c22 => ?_) (fun c22 => ?_)
          · replace hf := iff_ hf c22
            refine lv_iconst (v := 0) hx hb dX8_readSound_121 (by decide) ?_
            obtain rfl := so1 hf
            exact J25 _ _ _ hW (lv_sub hl [0, 2, 4] rfl)
          · replace hf := ift_ hf c22
            refine lv_iconst (v := 1) hx hb dX8_readSound_117 (by decide) ?_
            refine lv_goto (tgt := 122) hx hb dX8_readSound_118 (by decide) ?_
            obtain rfl := so1 hf
            exact J25 _ _ _ hW (lv_sub hl [0, 2, 4] rfl)
        · replace hf := iff_ hf c18
          refine lv_aload_n hx hb dX8_readSound_101 rfl (lv_at hl 0 rfl) ?_
          refine lv_iload_n hx hb dX8_readSound_102 rfl (lv_at hl 3 rfl) ?_
          replace hf := bd_so hf
          obtain ⟨S38, h39, hf⟩ := hf
          refine g_putI (ci := 8) (k := 3) C g_us hW rfl rfl rfl (in_sid _ rfl) (by decide) f_RX8_27 rfl rfl rfl h39 dX8_readSound_103 (fun H locs hW => ?_)
          refine lv_iconst (v := 0) hx hb dX8_readSound_106 (by decide) ?_
          obtain ⟨rfl, rfl⟩ := so2 hf
          exact kR _ _ _ _ hW (Or.inl rfl) dX8_readSound_107
    clear hf
    have hf := h13
    clear h13
    refine lv_icmp_lt (tgt := 80) hx hb dX8_readSound_53 (by decide) (fun c10 => ?_) (fun c10 => ?_)
    · replace hf := ift_ hf c10
      obtain ⟨rfl, rfl⟩ := so2 hf
      exact J14 _ _ _ hW (lv_sub hl [4, 5, 3, 2, 1] rfl)
    · replace hf := iff_ hf c10
      refine lv_iload hx hb dX8_readSound_56 (lv_at hl 0 rfl) ?_
      refine lv_bipush (v := 57) hx hb dX8_readSound_58 (by decide) ?_
      refine lv_icmp_gt (tgt := 80) hx hb dX8_readSound_60 (by decide) (fun c40 => ?_) (fun c40 => ?_)
      · replace hf := ift_ hf c40
        obtain ⟨rfl, rfl⟩ := so2 hf
        exact J14 _ _ _ hW (lv_sub hl [4, 5, 3, 2, 1] rfl)
      · replace hf := iff_ hf c40
        refine lv_iload hx hb dX8_readSound_63 (lv_at hl 0 rfl) ?_
        refine lv_bipush (v := 48) hx hb dX8_readSound_65 (by decide) ?_
        refine lv_isub hx hb dX8_readSound_67 ?_
        refine lv_istore (lv' := [(4, .int (x8 - 48)), (5, .int x8), (3, .int (rI S3 11 3)), (2, .int x2), (0, .ref (E.ad 11)), (1, .int a1)]) hx hb dX8_readSound_68 hl (by decide) rfl (fun ls hl => ?_)
        refine lv_aload_n hx hb dX8_readSound_70 rfl (lv_at hl 4 rfl) ?_
        refine lv_dup hx hb dX8_readSound_71 rfl ?_
        refine g_get (ci := 8) (k := 3) (val := .int (rI S9 11 3)) C g_us hW rfl rfl rfl (in_sid _ rfl) (by decide) f_RX8_27 rfl dX8_readSound_72 ?_
        refine lv_iconst (v := 1) hx hb dX8_readSound_75 (by decide) ?_
        refine lv_iadd hx hb dX8_readSound_76 ?_
        replace hf := bd_so hf
        obtain ⟨S41, h42, hf⟩ := hf
        refine g_putI (ci := 8) (k := 3) C g_us hW rfl rfl rfl (in_sid _ rfl) (by decide) f_RX8_27 rfl rfl rfl h42 dX8_readSound_77 (fun H locs hW => ?_)
        obtain ⟨rfl, rfl⟩ := so2 hf
        exact J14 _ _ _ hW (lv_sub hl [4, 5, 3, 2, 0] rfl)
  · replace hf := iff_ hf c4
    refine lv_iload_n hx hb dX8_readSound_11 rfl (lv_at hl 0 rfl) ?_
    refine lv_bipush (v := 97) hx hb dX8_readSound_12 (by decide) ?_
    refine lv_icmp_lt (tgt := 23) hx hb dX8_readSound_14 (by decide) (fun c43 => ?_) (fun c43 => ?_)
    · replace hf := ift_ hf c43
      refine lv_iconst (v := 0) hx hb dX8_readSound_23 (by decide) ?_
      obtain ⟨rfl, rfl⟩ := so2 hf
      exact kR _ _ _ _ hW (Or.inl rfl) dX8_readSound_24
    · replace hf := iff_ hf c43
      refine lv_iload_n hx hb dX8_readSound_17 rfl (lv_at hl 0 rfl) ?_
      refine lv_bipush (v := 103) hx hb dX8_readSound_18 (by decide) ?_
      refine lv_icmp_le (tgt := 25) hx hb dX8_readSound_20 (by decide) (fun c44 => ?_) (fun c44 => ?_)
      · replace hf := ift_ hf c44
        refine lv_aload_n hx hb dX8_readSound_25 rfl (lv_at hl 1 rfl) ?_
        refine g_get (ci := 8) (k := 3) (val := .int (rI S3 11 3)) C g_us hW rfl rfl rfl (in_sid _ rfl) (by decide) f_RX8_27 rfl dX8_readSound_26 ?_
        refine lv_istore_n (lv' := [(3, .int (rI S3 11 3)), (2, .int x2), (0, .ref (E.ad 11)), (1, .int a1)]) hx hb dX8_readSound_29 rfl hl (by decide) rfl (fun ls hl => ?_)
        refine lv_aload_n hx hb dX8_readSound_30 rfl (lv_at hl 2 rfl) ?_
        refine lv_dup hx hb dX8_readSound_31 rfl ?_
        refine g_get (ci := 8) (k := 3) (val := .int (rI S3 11 3)) C g_us hW rfl rfl rfl (in_sid _ rfl) (by decide) f_RX8_27 rfl dX8_readSound_32 ?_
        refine lv_iconst (v := 1) hx hb dX8_readSound_35 (by decide) ?_
        refine lv_iadd hx hb dX8_readSound_36 ?_
        replace hf := bd_so hf
        obtain ⟨S45, h46, hf⟩ := hf
        refine g_putI (ci := 8) (k := 3) C g_us hW rfl rfl rfl (in_sid _ rfl) (by decide) f_RX8_27 rfl rfl rfl h46 dX8_readSound_37 (fun H locs hW => ?_)
        refine lv_iconst (v := 1) hx hb dX8_readSound_40 (by decide) ?_
        refine lv_istore (lv' := [(4, .int 1), (3, .int (rI S3 11 3)), (2, .int x2), (0, .ref (E.ad 11)), (1, .int a1)]) hx hb dX8_readSound_41 hl (by decide) rfl (fun ls hl => ?_)
        refine lv_aload_n hx hb dX8_readSound_43 rfl (lv_at hl 3 rfl) ?_
        replace hf := bd_so hf
        obtain ⟨⟨x48, S49⟩, h47, hf⟩ := hf
        dsimp only at hf
        refine g_callVi (ci := 8) (As := []) (rest := []) C g_us hW hl.1 (c_X8_peek l E S45  _ _ h47) rfl rfl rfl (in_sid _ rfl) k_RX8_30 rfl ⟨rfl, rfl⟩ ⟨Nat.le_of_ble_eq_true rfl, Nat.le_of_ble_eq_true rfl⟩ ⟨Nat.zero_le _, Nat.zero_le _⟩ _ rfl (Nat.le_of_ble_eq_true rfl) dX8_readSound_44 (fun H locs hW => ?_)
        refine lv_istore (lv' := [(5, .int x48), (4, .int 1), (3, .int (rI S3 11 3)), (2, .int x2), (0, .ref (E.ad 11)), (1, .int a1)]) hx hb dX8_readSound_47 hl (by decide) rfl (fun ls hl => ?_)
        refine lv_iload hx hb dX8_readSound_49 (lv_at hl 0 rfl) ?_
        refine lv_bipush (v := 49) hx hb dX8_readSound_51 (by decide) ?_
        replace hf := bd_so hf
        obtain ⟨⟨x51, S52⟩, h53, hf⟩ := hf
        dsimp only at hf
        have J54 : ∀ (H : Heap) (locs : List Loc) (ls : Array Slot), Ww E S52 s H locs → lv_has ls 7 [(0, .ref (E.ad 11)), (1, .int a1), (2, .int x2), (3, .int (rI S3 11 3)), (4, .int x51)] → W p l e rm_X8_readSound s m args below meth c H locs 0 0 Q (F0 m 80 ls []) := by
          intro H locs ls hW hl
          refine lv_iload_n hx hb dX8_readSound_80 rfl (lv_at hl 1 rfl) ?_
          refine lv_bipush (v := 40) hx hb dX8_readSound_81 (by decide) ?_
          refine lv_icmp_eq (tgt := 101) hx hb dX8_readSound_83 (by decide) (fun c55 => ?_) (fun c55 => ?_)
          · replace hf := ift_ hf c55
            refine lv_aload_n hx hb dX8_readSound_101 rfl (lv_at hl 0 rfl) ?_
            refine lv_iload_n hx hb dX8_readSound_102 rfl (lv_at hl 3 rfl) ?_
            replace hf := bd_so hf
            obtain ⟨S56, h57, hf⟩ := hf
            refine g_putI (ci := 8) (k := 3) C g_us hW rfl rfl rfl (in_sid _ rfl) (by decide) f_RX8_27 rfl rfl rfl h57 dX8_readSound_103 (fun H locs hW => ?_)
            refine lv_iconst (v := 0) hx hb dX8_readSound_106 (by decide) ?_
            obtain ⟨rfl, rfl⟩ := so2 hf
            exact kR _ _ _ _ hW (Or.inl rfl) dX8_readSound_107
          · replace hf := iff_ hf c55
            refine lv_aload_n hx hb dX8_readSound_86 rfl (lv_at hl 0 rfl) ?_
            refine g_get (ci := 8) (k := 1) (val := .ref (E.ad 12)) C g_us hW rfl rfl rfl (in_sid _ rfl) (by decide) f_RX8_12 rfl dX8_readSound_87 ?_
            refine g_get (ci := 5) (k := 0) (val := .int (rI S52 12 0)) C g_us hW rfl rfl rfl (in_sid _ rfl) (by decide) f_RX8_26 rfl dX8_readSound_90 ?_
            refine lv_iload hx hb dX8_readSound_93 (lv_at hl 4 rfl) ?_
            refine lv_iadd hx hb dX8_readSound_95 ?_
            refine lv_bipush (v := 64) hx hb dX8_readSound_96 (by decide) ?_
            refine lv_icmp_le (tgt := 108) hx hb dX8_readSound_98 (by decide) (fun c58 => ?_) (fun c58 => ?_)
            · replace hf := ift_ hf c58
              refine lv_aload_n hx hb dX8_readSound_108 rfl (lv_at hl 0 rfl) ?_
              replace hf := bd_so hf
              obtain ⟨⟨x60, S61⟩, h59, hf⟩ := hf
              dsimp only at hf
              refine g_callVi (ci := 8) (As := []) (rest := []) C g_us hW hl.1 (c_X8_peek l E S52  _ _ h59) rfl rfl rfl (in_sid _ rfl) k_RX8_30 rfl ⟨rfl, rfl⟩ ⟨Nat.le_of_ble_eq_true rfl, Nat.le_of_ble_eq_true rfl⟩ ⟨Nat.zero_le _, Nat.zero_le _⟩ _ rfl (Nat.le_of_ble_eq_true rfl) dX8_readSound_109 (fun H locs hW => ?_)
              refine lv_bipush (v := 46) hx hb dX8_readSound_112 (by decide) ?_
              replace hf := bd_so hf
              obtain ⟨x63, h64, hf⟩ := hf
              have J65 : ∀ (H : Heap) (locs : List Loc) (ls : Array Slot), Ww E S61 s H locs → lv_has ls 7 [(0, .ref (E.ad 11)), (2, .int x2), (4, .int x51)] → W p l e rm_X8_readSound s m args below meth c H locs 0 0 Q (F0 m 122 ls [.int x63]) := by
                intro H locs ls hW hl
                refine lv_istore (lv' := [(6, .int x63), (0, .ref (E.ad 11)), (2, .int x2), (4, .int x51)]) hx hb dX8_readSound_122 hl (by decide) rfl (fun ls hl => ?_)
                refine lv_iload hx hb dX8_readSound_124 (lv_at hl 0 rfl) ?_
                replace hf := bd_so hf
                obtain ⟨S67, h68, hf⟩ := hf
                have J69 : ∀ (H : Heap) (locs : List Loc) (ls : Array Slot), Ww E S67 s H locs → lv_has ls 7 [(0, .ref (E.ad 11)), (2, .int x2), (4, .int x51), (6, .int x63)] → W p l e rm_X8_readSound s m args below meth c H locs 0 0 Q (F0 m 139 ls []) := by
                  intro H locs ls hW hl
                  refine lv_aload_n hx hb dX8_readSound_139 rfl (lv_at hl 0 rfl) ?_
                  refine g_get (ci := 8) (k := 1) (val := .ref (E.ad 12)) C g_us hW rfl rfl rfl (in_sid _ rfl) (by decide) f_RX8_12 rfl dX8_readSound_140 ?_
                  refine lv_iload_n hx hb dX8_readSound_143 rfl (lv_at hl 1 rfl) ?_
                  refine lv_bipush (v := 45) hx hb dX8_readSound_144 (by decide) ?_
                  replace hf := bd_so hf
                  obtain ⟨x71, h72, hf⟩ := hf
                  have J73 : ∀ (H : Heap) (locs : List Loc) (ls : Array Slot), Ww E S67 s H locs → lv_has ls 7 [(4, .int x51), (6, .int x63)] → W p l e rm_X8_readSound s m args below meth c H locs 0 0 Q (F0 m 159 ls [.int x71, .ref (E.ad 12)]) := by
                    intro H locs ls hW hl
                    refine lv_iload hx hb dX8_readSound_159 (lv_at hl 0 rfl) ?_
                    refine lv_iload hx hb dX8_readSound_161 (lv_at hl 1 rfl) ?_
                    replace hf := bd_so hf
                    obtain ⟨S75, h74, hf⟩ := hf
                    refine g_callVv (ci := 5) (As := [.int x71, .int x51, .int x63]) (rest := []) C g_us hW hl.1 (c_X5_append l E S67 x71 x51 x63 _ h74) rfl rfl rfl (in_sid _ rfl) k_RX8_38 rfl ⟨rfl, rfl⟩ ⟨Nat.le_of_ble_eq_true rfl, Nat.le_of_ble_eq_true rfl⟩ ⟨Nat.zero_le _, Nat.zero_le _⟩ _ rfl (Nat.le_of_ble_eq_true rfl) dX8_readSound_163 (fun H locs hW => ?_)
                    refine lv_iconst (v := 1) hx hb dX8_readSound_166 (by decide) ?_
                    obtain ⟨rfl, rfl⟩ := so2 hf
                    exact kR _ _ _ _ hW (Or.inr rfl) dX8_readSound_167
                  clear hf
                  have hf := h72
                  clear h72
                  refine lv_icmp_ne (tgt := 153) hx hb dX8_readSound_146 (by decide) (fun c70 => ?_) (fun c70 => ?_)
                  · replace hf := iff_ hf c70
                    refine lv_iload_n hx hb dX8_readSound_153 rfl (lv_at hl 1 rfl) ?_
                    refine lv_bipush (v := 97) hx hb dX8_readSound_154 (by decide) ?_
                    refine lv_isub hx hb dX8_readSound_156 ?_
                    refine lv_iconst (v := 1) hx hb dX8_readSound_157 (by decide) ?_
                    refine lv_iadd hx hb dX8_readSound_158 ?_
                    obtain rfl := so1 hf
                    exact J73 _ _ _ hW (lv_sub hl [2, 3] rfl)
                  · replace hf := ift_ hf c70
                    refine lv_iconst (v := 0) hx hb dX8_readSound_149 (by decide) ?_
                    refine lv_goto (tgt := 159) hx hb dX8_readSound_150 (by decide) ?_
                    obtain rfl := so1 hf
                    exact J73 _ _ _ hW (lv_sub hl [2, 3] rfl)
                clear hf
                have hf := h68
                clear h68
                refine lv_if_eq (tgt := 139) hx hb dX8_readSound_126 (by decide) (fun c66 => ?_) (fun c66 => ?_)
                · replace hf := ift_ hf c66
                  obtain rfl := so1 hf
                  exact J69 _ _ _ hW (lv_sub hl [1, 2, 3, 0] rfl)
                · replace hf := iff_ hf c66
                  refine lv_aload_n hx hb dX8_readSound_129 rfl (lv_at hl 1 rfl) ?_
                  refine lv_dup hx hb dX8_readSound_130 rfl ?_
                  refine g_get (ci := 8) (k := 3) (val := .int (rI S61 11 3)) C g_us hW rfl rfl rfl (in_sid _ rfl) (by decide) f_RX8_27 rfl dX8_readSound_131 ?_
                  refine lv_iconst (v := 1) hx hb dX8_readSound_134 (by decide) ?_
                  refine lv_iadd hx hb dX8_readSound_135 ?_
                  replace hf := bd_so hf
                  obtain ⟨S76, h77, hf⟩ := hf
                  refine g_putI (ci := 8) (k := 3) C g_us hW rfl rfl rfl (in_sid _ rfl) (by decide) f_RX8_27 rfl rfl rfl h77 dX8_readSound_136 (fun H locs hW => ?_)
                  obtain rfl := so1 hf
                  exact J69 _ _ _ hW (lv_sub hl [1, 2, 3, 0] rfl)
              clear hf
              have hf := h64
              clear h64
              refine lv_icmp_ne (tgt := 121) hx hb dX8_readSound_114 (by decide) (fun c62 => ?_) (fun c62 => ?_)
              · replace hf := iff_ hf c62
                refine lv_iconst (v := 0) hx hb dX8_readSound_121 (by decide) ?_
                obtain rfl := so1 hf
                exact J65 _ _ _ hW (lv_sub hl [0, 2, 4] rfl)
              · replace hf := ift_ hf c62
                refine lv_iconst (v := 1) hx hb dX8_readSound_117 (by decide) ?_
                refine lv_goto (tgt := 122) hx hb dX8_readSound_118 (by decide) ?_
                obtain rfl := so1 hf
                exact J65 _ _ _ hW (lv_sub hl [0, 2, 4] rfl)
            · replace hf := iff_ hf c58
              refine lv_aload_n hx hb dX8_readSound_101 rfl (lv_at hl 0 rfl) ?_
              refine lv_iload_n hx hb dX8_readSound_102 rfl (lv_at hl 3 rfl) ?_
              replace hf := bd_so hf
              obtain ⟨S78, h79, hf⟩ := hf
              refine g_putI (ci := 8) (k := 3) C g_us hW rfl rfl rfl (in_sid _ rfl) (by decide) f_RX8_27 rfl rfl rfl h79 dX8_readSound_103 (fun H locs hW => ?_)
              refine lv_iconst (v := 0) hx hb dX8_readSound_106 (by decide) ?_
              obtain ⟨rfl, rfl⟩ := so2 hf
              exact kR _ _ _ _ hW (Or.inl rfl) dX8_readSound_107
        clear hf
        have hf := h53
        clear h53
        refine lv_icmp_lt (tgt := 80) hx hb dX8_readSound_53 (by decide) (fun c50 => ?_) (fun c50 => ?_)
        · replace hf := ift_ hf c50
          obtain ⟨rfl, rfl⟩ := so2 hf
          exact J54 _ _ _ hW (lv_sub hl [4, 5, 3, 2, 1] rfl)
        · replace hf := iff_ hf c50
          refine lv_iload hx hb dX8_readSound_56 (lv_at hl 0 rfl) ?_
          refine lv_bipush (v := 57) hx hb dX8_readSound_58 (by decide) ?_
          refine lv_icmp_gt (tgt := 80) hx hb dX8_readSound_60 (by decide) (fun c80 => ?_) (fun c80 => ?_)
          · replace hf := ift_ hf c80
            obtain ⟨rfl, rfl⟩ := so2 hf
            exact J54 _ _ _ hW (lv_sub hl [4, 5, 3, 2, 1] rfl)
          · replace hf := iff_ hf c80
            refine lv_iload hx hb dX8_readSound_63 (lv_at hl 0 rfl) ?_
            refine lv_bipush (v := 48) hx hb dX8_readSound_65 (by decide) ?_
            refine lv_isub hx hb dX8_readSound_67 ?_
            refine lv_istore (lv' := [(4, .int (x48 - 48)), (5, .int x48), (3, .int (rI S3 11 3)), (2, .int x2), (0, .ref (E.ad 11)), (1, .int a1)]) hx hb dX8_readSound_68 hl (by decide) rfl (fun ls hl => ?_)
            refine lv_aload_n hx hb dX8_readSound_70 rfl (lv_at hl 4 rfl) ?_
            refine lv_dup hx hb dX8_readSound_71 rfl ?_
            refine g_get (ci := 8) (k := 3) (val := .int (rI S49 11 3)) C g_us hW rfl rfl rfl (in_sid _ rfl) (by decide) f_RX8_27 rfl dX8_readSound_72 ?_
            refine lv_iconst (v := 1) hx hb dX8_readSound_75 (by decide) ?_
            refine lv_iadd hx hb dX8_readSound_76 ?_
            replace hf := bd_so hf
            obtain ⟨S81, h82, hf⟩ := hf
            refine g_putI (ci := 8) (k := 3) C g_us hW rfl rfl rfl (in_sid _ rfl) (by decide) f_RX8_27 rfl rfl rfl h82 dX8_readSound_77 (fun H locs hW => ?_)
            obtain ⟨rfl, rfl⟩ := so2 hf
            exact J54 _ _ _ hW (lv_sub hl [4, 5, 3, 2, 0] rfl)
      · replace hf := iff_ hf c44
        refine lv_iconst (v := 0) hx hb dX8_readSound_23 (by decide) ?_
        obtain ⟨rfl, rfl⟩ := so2 hf
        exact kR _ _ _ _ hW (Or.inl rfl) dX8_readSound_24

abbrev rm_X8_read : Room := { frames := 3, cells := 0, slots := 0, locals := 110 }
set_option maxHeartbeats 4000000 in
set_option maxRecDepth 100000 in
theorem c_X8_read (l : Launch) (E : En) (S : St) (r : Int32) (S1 : St) (hf : X8_read S  = some (r, S1)) : Mi l E yX8_read cX8_read 2 (some .int) rm_X8_read [.ref (E.ad 11)] S r S1 := by
  refine g_startI (cc := cX8_read) (n := 2) (by decide) (Nat.le_of_ble_eq_true rfl) ?_
  intro p e s m args below meth c Q H locs C kR hW ls hl
  obtain ⟨⟨hx, hb, hml, hown, hts⟩, hK, hT⟩ := id C
  have hl : lv_has ls 2 [(0, .ref (E.ad 11))] := hl
  have X8_read_L15_c : ∀ (res : (St) ⊕ (Int32 × St)) (n : Nat) (v1 : Int32) (S : St) (H : Heap) (locs : List Loc) (ls : Array Slot), Ww E S s H locs → lv_has ls 2 [(0, .ref (E.ad 11)), (1, .int v1)] → X8_read_L15  n v1 S = some res → (∀ (T : St) (H : Heap) (locs : List Loc) (ls : Array Slot), some (.inl T) = some res → Ww E T s H locs → lv_has ls 2 [(0, .ref (E.ad 11))] → W p l e rm_X8_read s m args below meth c H locs 0 0 Q (F0 m 58 ls [])) → (∀ (r0 : Int32) (T : St) (H : Heap) (locs : List Loc) (pc : Nat) (ls : Array Slot), some (.inr (r0, T)) = some res → Ww E T s H locs → decode cX8_read pc = .ok (.ireturn, 1) → W p l e rm_X8_read s m args below meth c H locs 0 0 Q (F0 m pc ls [.int r0])) → W p l e rm_X8_read s m args below meth c H locs 0 0 Q (F0 m 15 ls []) := by
    intro  res n
    induction n with
    | zero =>
      intro v1 S H locs ls hW hl hf
      cases hf
    | succ n ih =>
      intro v1 S H locs ls hW hl hf kE kR
      unfold X8_read_L15 at hf
      refine lv_iload_n hx hb dX8_read_15 rfl (lv_at hl 1 rfl) ?_
      refine lv_bipush (v := 40) hx hb dX8_read_16 (by decide) ?_
      refine lv_icmp_gt (tgt := 58) hx hb dX8_read_18 (by decide) (fun c5 => ?_) (fun c5 => ?_)
      · replace hf := ift_ hf c5
        exact kE _ _ _ _ hf hW (lv_sub hl [0] rfl)
      · replace hf := iff_ hf c5
        refine lv_iload_n hx hb dX8_read_21 rfl (lv_at hl 1 rfl) ?_
        refine lv_if_le (tgt := 41) hx hb dX8_read_22 (by decide) (fun c6 => ?_) (fun c6 => ?_)
        · replace hf := ift_ hf c6
          refine lv_aload_n hx hb dX8_read_41 rfl (lv_at hl 0 rfl) ?_
          refine lv_iload_n hx hb dX8_read_42 rfl (lv_at hl 1 rfl) ?_
          replace hf := bd_so hf
          obtain ⟨⟨x8, S9⟩, h7, hf⟩ := hf
          dsimp only at hf
          refine g_callVi (ci := 8) (As := [.int v1]) (rest := []) C g_us hW hl.1 (c_X8_readSound l E S v1 _ _ h7) rfl rfl rfl (in_sid _ rfl) k_RX8_34 rfl ⟨rfl, rfl⟩ ⟨Nat.le_of_ble_eq_true rfl, Nat.le_of_ble_eq_true rfl⟩ ⟨Nat.zero_le _, Nat.zero_le _⟩ _ rfl (Nat.le_of_ble_eq_true rfl) dX8_read_43 (fun H locs hW => ?_)
          refine lv_if_ne (tgt := 52) hx hb dX8_read_46 (by decide) (fun c10 => ?_) (fun c10 => ?_)
          · replace hf := iff_ hf c10
            refine lv_iinc (v := (v1 + 1)) (lv' := [(1, .int (v1 + 1)), (0, .ref (E.ad 11))]) hx hb dX8_read_52 hl (k := 1) rfl rfl (by decide) rfl (fun ls hl => ?_)
            refine lv_goto (tgt := 15) hx hb dX8_read_55 (by decide) ?_
            exact ih _ _ _ _ _ hW (lv_sub hl [1, 0] rfl) hf kE kR
          · replace hf := ift_ hf c10
            refine lv_goto (tgt := 58) hx hb dX8_read_49 (by decide) ?_
            exact kE _ _ _ _ hf hW (lv_sub hl [0] rfl)
        · replace hf := iff_ hf c6
          refine lv_aload_n hx hb dX8_read_25 rfl (lv_at hl 0 rfl) ?_
          replace hf := bd_so hf
          obtain ⟨⟨x12, S13⟩, h11, hf⟩ := hf
          dsimp only at hf
          refine g_callVi (ci := 8) (As := []) (rest := []) C g_us hW hl.1 (c_X8_peek l E S  _ _ h11) rfl rfl rfl (in_sid _ rfl) k_RX8_30 rfl ⟨rfl, rfl⟩ ⟨Nat.le_of_ble_eq_true rfl, Nat.le_of_ble_eq_true rfl⟩ ⟨Nat.zero_le _, Nat.zero_le _⟩ _ rfl (Nat.le_of_ble_eq_true rfl) dX8_read_26 (fun H locs hW => ?_)
          refine lv_iconst (v := (-1)) hx hb dX8_read_29 (by decide) ?_
          refine lv_icmp_ne (tgt := 41) hx hb dX8_read_30 (by decide) (fun c14 => ?_) (fun c14 => ?_)
          · replace hf := iff_ hf c14
            refine lv_aload_n hx hb dX8_read_41 rfl (lv_at hl 0 rfl) ?_
            refine lv_iload_n hx hb dX8_read_42 rfl (lv_at hl 1 rfl) ?_
            replace hf := bd_so hf
            obtain ⟨⟨x16, S17⟩, h15, hf⟩ := hf
            dsimp only at hf
            refine g_callVi (ci := 8) (As := [.int v1]) (rest := []) C g_us hW hl.1 (c_X8_readSound l E S13 v1 _ _ h15) rfl rfl rfl (in_sid _ rfl) k_RX8_34 rfl ⟨rfl, rfl⟩ ⟨Nat.le_of_ble_eq_true rfl, Nat.le_of_ble_eq_true rfl⟩ ⟨Nat.zero_le _, Nat.zero_le _⟩ _ rfl (Nat.le_of_ble_eq_true rfl) dX8_read_43 (fun H locs hW => ?_)
            refine lv_if_ne (tgt := 52) hx hb dX8_read_46 (by decide) (fun c18 => ?_) (fun c18 => ?_)
            · replace hf := iff_ hf c18
              refine lv_iinc (v := (v1 + 1)) (lv' := [(1, .int (v1 + 1)), (0, .ref (E.ad 11))]) hx hb dX8_read_52 hl (k := 1) rfl rfl (by decide) rfl (fun ls hl => ?_)
              refine lv_goto (tgt := 15) hx hb dX8_read_55 (by decide) ?_
              exact ih _ _ _ _ _ hW (lv_sub hl [1, 0] rfl) hf kE kR
            · replace hf := ift_ hf c18
              refine lv_goto (tgt := 58) hx hb dX8_read_49 (by decide) ?_
              exact kE _ _ _ _ hf hW (lv_sub hl [0] rfl)
          · replace hf := ift_ hf c14
            refine lv_aload_n hx hb dX8_read_33 rfl (lv_at hl 0 rfl) ?_
            refine g_get (ci := 8) (k := 1) (val := .ref (E.ad 12)) C g_us hW rfl rfl rfl (in_sid _ rfl) (by decide) f_RX8_12 rfl dX8_read_34 ?_
            refine g_get (ci := 5) (k := 0) (val := .int (rI S13 12 0)) C g_us hW rfl rfl rfl (in_sid _ rfl) (by decide) f_RX8_26 rfl dX8_read_37 ?_
            exact kR _ _ _ _ _ _ hf hW dX8_read_40
  unfold X8_read at hf
  refine lv_aload_n hx hb dX8_read_0 rfl (lv_at hl 0 rfl) ?_
  refine g_get (ci := 8) (k := 1) (val := .ref (E.ad 12)) C g_us hW rfl rfl rfl (in_sid _ rfl) (by decide) f_RX8_12 rfl dX8_read_1 ?_
  refine lv_iconst (v := 0) hx hb dX8_read_4 (by decide) ?_
  replace hf := bd_so hf
  obtain ⟨S1, h2, hf⟩ := hf
  refine g_putI (ci := 5) (k := 0) C g_us hW rfl rfl rfl (in_sid _ rfl) (by decide) f_RX8_26 rfl rfl rfl h2 dX8_read_5 (fun H locs hW => ?_)
  refine lv_aload_n hx hb dX8_read_8 rfl (lv_at hl 0 rfl) ?_
  refine lv_iconst (v := 0) hx hb dX8_read_9 (by decide) ?_
  replace hf := bd_so hf
  obtain ⟨S3, h4, hf⟩ := hf
  refine g_putI (ci := 8) (k := 3) C g_us hW rfl rfl rfl (in_sid _ rfl) (by decide) f_RX8_27 rfl rfl rfl h4 dX8_read_10 (fun H locs hW => ?_)
  refine lv_iconst (v := 0) hx hb dX8_read_13 (by decide) ?_
  refine lv_istore_n (lv' := [(1, .int 0), (0, .ref (E.ad 11))]) hx hb dX8_read_14 rfl hl (by decide) rfl (fun ls hl => ?_)
  replace hf := bd_so hf
  obtain ⟨t, h20, hf⟩ := hf
  rcases t with S19 | ⟨x22, S23⟩
  · dsimp only at hf
    have J21 : ∀ (H : Heap) (locs : List Loc) (ls : Array Slot), Ww E S19 s H locs → lv_has ls 2 [(0, .ref (E.ad 11))] → W p l e rm_X8_read s m args below meth c H locs 0 0 Q (F0 m 58 ls []) := by
      intro H locs ls hW hl
      refine lv_bipush (v := (-20)) hx hb dX8_read_58 (by decide) ?_
      refine lv_aload_n hx hb dX8_read_60 rfl (lv_at hl 0 rfl) ?_
      refine g_get (ci := 8) (k := 3) (val := .int (rI S19 11 3)) C g_us hW rfl rfl rfl (in_sid _ rfl) (by decide) f_RX8_27 rfl dX8_read_61 ?_
      refine lv_isub hx hb dX8_read_64 ?_
      obtain ⟨rfl, rfl⟩ := so2 hf
      exact kR _ _ _ _ hW dX8_read_65
    exact X8_read_L15_c _ FU _ _ _ _ _ hW (lv_sub hl [1, 0] rfl) h20 (fun _ H locs ls e hW hl => by cases e; exact J21 H locs ls hW hl) (fun _ _ H locs pc ls e hW dd => by cases e)
  · dsimp only at hf
    refine X8_read_L15_c _ FU _ _ _ _ _ hW (lv_sub hl [1, 0] rfl) h20 (fun _ H locs ls e hW hl => by cases e) (fun _ _ H locs pc ls e hW dd => ?_)
    cases e
    obtain ⟨rfl, rfl⟩ := so2 hf
    exact kR _ _ _ _ hW dd

abbrev rm_X9_toldTo : Room := { frames := 3, cells := 0, slots := 0, locals := 103 }
set_option maxHeartbeats 4000000 in
set_option maxRecDepth 100000 in
theorem c_X9_toldTo (l : Launch) (E : En) (S : St) (a2 : Int32) (a3 : Int32) (r : Int32) (hf : X9_toldTo S a2 a3 = some r) : Mi l E yX9_toldTo cX9_toldTo 7 (some .int) rm_X9_toldTo [.ref (E.ad 32), .ref (E.ad 2), .int a2, .int a3] S r S := by
  refine g_startI (cc := cX9_toldTo) (n := 7) (by decide) (Nat.le_of_ble_eq_true rfl) ?_
  intro p e s m args below meth c Q H locs C kR hW ls hl
  obtain ⟨⟨hx, hb, hml, hown, hts⟩, hK, hT⟩ := id C
  have hl : lv_has ls 7 [(0, .ref (E.ad 32)), (1, .ref (E.ad 2)), (2, .int a2), (3, .int a3)] := hl
  have X9_toldTo_L6_c : ∀ (S : St) (v2 : Int32) (v3 : Int32) (res : Int32) (n : Nat) (v4 : Int32) (v5 : Int32) (H : Heap) (locs : List Loc) (ls : Array Slot), Ww E S s H locs → lv_has ls 7 [(0, .ref (E.ad 32)), (1, .ref (E.ad 2)), (2, .int v2), (3, .int v3), (4, .int v4), (5, .int v5)] → X9_toldTo_L6 S v2 v3 n v4 v5 = some res → (∀ (w4 : Int32) (H : Heap) (locs : List Loc) (ls : Array Slot), some w4 = some res → Ww E S s H locs → lv_has ls 7 [(4, .int w4)] → W p l e rm_X9_toldTo s m args below meth c H locs 0 0 Q (F0 m 83 ls [])) → W p l e rm_X9_toldTo s m args below meth c H locs 0 0 Q (F0 m 6 ls []) := by
    intro S v2 v3 res n
    induction n with
    | zero =>
      intro v4 v5 H locs ls hW hl hf
      cases hf
    | succ n ih =>
      intro v4 v5 H locs ls hW hl hf kE
      unfold X9_toldTo_L6 at hf
      refine lv_iload hx hb dX9_toldTo_6 (lv_at hl 5 rfl) ?_
      refine lv_aload_n hx hb dX9_toldTo_8 rfl (lv_at hl 1 rfl) ?_
      refine g_get (ci := 6) (k := 0) (val := .int (rI S 2 0)) C g_us hW rfl rfl rfl (in_sid _ rfl) (by decide) f_RX9_18 rfl dX9_toldTo_9 ?_
      refine lv_icmp_ge (tgt := 83) hx hb dX9_toldTo_12 (by decide) (fun c1 => ?_) (fun c1 => ?_)
      · replace hf := ift_ hf c1
        exact kE _ _ _ _ hf hW (lv_sub hl [4] rfl)
      · replace hf := iff_ hf c1
        refine lv_aload_n hx hb dX9_toldTo_15 rfl (lv_at hl 1 rfl) ?_
        refine lv_iload_n hx hb dX9_toldTo_16 rfl (lv_at hl 2 rfl) ?_
        replace hf := bd_so hf
        obtain ⟨x3, h2, hf⟩ := hf
        refine g_callVi (ci := 6) (As := [.int v2]) (rest := []) C g_us hW hl.1 (c_X6_isCut l E S v2 _ h2) rfl rfl rfl (in_sid _ rfl) k_RX9_28 rfl ⟨rfl, rfl⟩ ⟨Nat.le_of_ble_eq_true rfl, Nat.le_of_ble_eq_true rfl⟩ ⟨Nat.zero_le _, Nat.zero_le _⟩ _ rfl (Nat.le_of_ble_eq_true rfl) dX9_toldTo_17 (fun H locs hW => ?_)
        refine lv_if_ne (tgt := 83) hx hb dX9_toldTo_20 (by decide) (fun c4 => ?_) (fun c4 => ?_)
        · replace hf := iff_ hf c4
          exact kE _ _ _ _ hf hW (lv_sub hl [4] rfl)
        · replace hf := ift_ hf c4
          refine lv_aload_n hx hb dX9_toldTo_23 rfl (lv_at hl 1 rfl) ?_
          refine lv_iload hx hb dX9_toldTo_24 (lv_at hl 5 rfl) ?_
          refine lv_iload_n hx hb dX9_toldTo_26 rfl (lv_at hl 2 rfl) ?_
          replace hf := bd_so hf
          obtain ⟨x6, h5, hf⟩ := hf
          refine g_callVi (ci := 6) (As := [.int v5, .int v2]) (rest := []) C g_us hW hl.1 (c_X6_between l E S v5 v2 _ h5) rfl rfl rfl (in_sid _ rfl) k_RX9_32 rfl ⟨rfl, rfl⟩ ⟨Nat.le_of_ble_eq_true rfl, Nat.le_of_ble_eq_true rfl⟩ ⟨Nat.zero_le _, Nat.zero_le _⟩ _ rfl (Nat.le_of_ble_eq_true rfl) dX9_toldTo_27 (fun H locs hW => ?_)
          replace hf := bd_so hf
          obtain ⟨x8, h9, hf⟩ := hf
          have J10 : ∀ (H : Heap) (locs : List Loc) (ls : Array Slot), Ww E S s H locs → lv_has ls 7 [(0, .ref (E.ad 32)), (1, .ref (E.ad 2)), (2, .int v2), (3, .int v3), (4, .int v4), (5, .int v5)] → W p l e rm_X9_toldTo s m args below meth c H locs 0 0 Q (F0 m 49 ls [.int x8]) := by
            intro H locs ls hW hl
            refine lv_istore (lv' := [(6, .int x8), (0, .ref (E.ad 32)), (1, .ref (E.ad 2)), (2, .int v2), (3, .int v3), (4, .int v4), (5, .int v5)]) hx hb dX9_toldTo_49 hl (by decide) rfl (fun ls hl => ?_)
            refine lv_iload hx hb dX9_toldTo_51 (lv_at hl 0 rfl) ?_
            replace hf := bd_so hf
            obtain ⟨x12, h13, hf⟩ := hf
            have J14 : ∀ (H : Heap) (locs : List Loc) (ls : Array Slot), Ww E S s H locs → lv_has ls 7 [(0, .ref (E.ad 32)), (1, .ref (E.ad 2)), (2, .int v2), (3, .int v3), (4, .int x12), (5, .int v5)] → W p l e rm_X9_toldTo s m args below meth c H locs 0 0 Q (F0 m 77 ls []) := by
              intro H locs ls hW hl
              refine lv_iinc (v := (v5 + 1)) (lv' := [(5, .int (v5 + 1)), (0, .ref (E.ad 32)), (1, .ref (E.ad 2)), (2, .int v2), (3, .int v3), (4, .int x12)]) hx hb dX9_toldTo_77 hl (k := 5) rfl rfl (by decide) rfl (fun ls hl => ?_)
              refine lv_goto (tgt := 6) hx hb dX9_toldTo_80 (by decide) ?_
              exact ih _ _ _ _ _ hW (lv_sub hl [1, 2, 3, 4, 5, 0] rfl) hf kE
            clear hf
            have hf := h13
            clear h13
            refine lv_if_eq (tgt := 77) hx hb dX9_toldTo_53 (by decide) (fun c11 => ?_) (fun c11 => ?_)
            · replace hf := ift_ hf c11
              obtain rfl := so1 hf
              exact J14 _ _ _ hW (lv_sub hl [1, 2, 3, 4, 5, 6] rfl)
            · replace hf := iff_ hf c11
              refine lv_aload_n hx hb dX9_toldTo_56 rfl (lv_at hl 2 rfl) ?_
              refine lv_iload hx hb dX9_toldTo_57 (lv_at hl 6 rfl) ?_
              replace hf := bd_so hf
              obtain ⟨x16, h15, hf⟩ := hf
              refine g_callVi (ci := 6) (As := [.int v5]) (rest := []) C g_us hW hl.1 (c_X6_isCut l E S v5 _ h15) rfl rfl rfl (in_sid _ rfl) k_RX9_28 rfl ⟨rfl, rfl⟩ ⟨Nat.le_of_ble_eq_true rfl, Nat.le_of_ble_eq_true rfl⟩ ⟨Nat.zero_le _, Nat.zero_le _⟩ _ rfl (Nat.le_of_ble_eq_true rfl) dX9_toldTo_59 (fun H locs hW => ?_)
              refine lv_if_ne (tgt := 77) hx hb dX9_toldTo_62 (by decide) (fun c17 => ?_) (fun c17 => ?_)
              · replace hf := iff_ hf c17
                obtain rfl := so1 hf
                exact J14 _ _ _ hW (lv_sub hl [1, 2, 3, 4, 5, 6] rfl)
              · replace hf := ift_ hf c17
                refine lv_iload hx hb dX9_toldTo_65 (lv_at hl 5 rfl) ?_
                refine lv_aload_n hx hb dX9_toldTo_67 rfl (lv_at hl 1 rfl) ?_
                refine g_get (ci := 9) (k := 1) (val := .ref (E.ad (rR S 32 1))) C g_us hW rfl rfl rfl (in_sid _ rfl) (by decide) f_RX9_15 rfl dX9_toldTo_68 ?_
                refine lv_iload hx hb dX9_toldTo_71 (lv_at hl 6 rfl) ?_
                replace hf := bd_so hf
                obtain ⟨x18, h19, hf⟩ := hf
                refine g_iald C hW h19 dX9_toldTo_73 ?_
                refine lv_ior hx hb dX9_toldTo_74 ?_
                refine lv_istore (lv' := [(4, .int (v4 ||| x18)), (6, .int x8), (0, .ref (E.ad 32)), (1, .ref (E.ad 2)), (2, .int v2), (3, .int v3), (5, .int v5)]) hx hb dX9_toldTo_75 hl (by decide) rfl (fun ls hl => ?_)
                obtain rfl := so1 hf
                exact J14 _ _ _ hW (lv_sub hl [2, 3, 4, 5, 0, 6] rfl)
          clear hf
          have hf := h9
          clear h9
          refine lv_if_le (tgt := 48) hx hb dX9_toldTo_30 (by decide) (fun c7 => ?_) (fun c7 => ?_)
          · replace hf := ift_ hf c7
            refine lv_iconst (v := 0) hx hb dX9_toldTo_48 (by decide) ?_
            obtain rfl := so1 hf
            exact J10 _ _ _ hW (lv_sub hl [0, 1, 2, 3, 4, 5] rfl)
          · replace hf := iff_ hf c7
            refine lv_aload_n hx hb dX9_toldTo_33 rfl (lv_at hl 1 rfl) ?_
            refine lv_iload_n hx hb dX9_toldTo_34 rfl (lv_at hl 3 rfl) ?_
            refine lv_iload hx hb dX9_toldTo_35 (lv_at hl 5 rfl) ?_
            refine lv_iload_n hx hb dX9_toldTo_37 rfl (lv_at hl 2 rfl) ?_
            replace hf := bd_so hf
            obtain ⟨x21, h20, hf⟩ := hf
            refine g_callVi (ci := 6) (As := [.int v3, .int v5, .int v2]) (rest := []) C g_us hW hl.1 (c_X6_losesWord l E S v3 v5 v2 _ h20) rfl rfl rfl (in_sid _ rfl) k_RX9_36 rfl ⟨rfl, rfl⟩ ⟨Nat.le_of_ble_eq_true rfl, Nat.le_of_ble_eq_true rfl⟩ ⟨Nat.zero_le _, Nat.zero_le _⟩ _ rfl (Nat.le_of_ble_eq_true rfl) dX9_toldTo_38 (fun H locs hW => ?_)
            refine lv_if_ne (tgt := 48) hx hb dX9_toldTo_41 (by decide) (fun c22 => ?_) (fun c22 => ?_)
            · replace hf := iff_ hf c22
              refine lv_iconst (v := 0) hx hb dX9_toldTo_48 (by decide) ?_
              obtain rfl := so1 hf
              exact J10 _ _ _ hW (lv_sub hl [0, 1, 2, 3, 4, 5] rfl)
            · replace hf := ift_ hf c22
              refine lv_iconst (v := 1) hx hb dX9_toldTo_44 (by decide) ?_
              refine lv_goto (tgt := 49) hx hb dX9_toldTo_45 (by decide) ?_
              obtain rfl := so1 hf
              exact J10 _ _ _ hW (lv_sub hl [0, 1, 2, 3, 4, 5] rfl)
  unfold X9_toldTo at hf
  refine lv_iconst (v := 0) hx hb dX9_toldTo_0 (by decide) ?_
  refine lv_istore (lv' := [(4, .int 0), (0, .ref (E.ad 32)), (1, .ref (E.ad 2)), (2, .int a2), (3, .int a3)]) hx hb dX9_toldTo_1 hl (by decide) rfl (fun ls hl => ?_)
  refine lv_iconst (v := 0) hx hb dX9_toldTo_3 (by decide) ?_
  refine lv_istore (lv' := [(5, .int 0), (4, .int 0), (0, .ref (E.ad 32)), (1, .ref (E.ad 2)), (2, .int a2), (3, .int a3)]) hx hb dX9_toldTo_4 hl (by decide) rfl (fun ls hl => ?_)
  replace hf := bd_so hf
  obtain ⟨x23, h24, hf⟩ := hf
  have J25 : ∀ (H : Heap) (locs : List Loc) (ls : Array Slot), Ww E S s H locs → lv_has ls 7 [(4, .int x23)] → W p l e rm_X9_toldTo s m args below meth c H locs 0 0 Q (F0 m 83 ls []) := by
    intro H locs ls hW hl
    refine lv_iload hx hb dX9_toldTo_83 (lv_at hl 0 rfl) ?_
    obtain rfl := so1 hf
    exact kR _ _ _ _ hW dX9_toldTo_85
  exact X9_toldTo_L6_c _ _ _ _ FU _ _ _ _ _ hW (lv_sub hl [2, 3, 4, 5, 1, 0] rfl) h24 (fun _ H locs ls e hW hl => by cases e; exact J25 H locs ls hW hl)

abbrev rm_X9_tellFor : Room := { frames := 4, cells := 0, slots := 0, locals := 129 }
set_option maxHeartbeats 4000000 in
set_option maxRecDepth 100000 in
theorem c_X9_tellFor (l : Launch) (E : En) (S : St) (a2 : Int32) (S1 : St) (hf : X9_tellFor S a2 = some S1) : Mv l E yX9_tellFor cX9_tellFor 6 none rm_X9_tellFor [.ref (E.ad 32), .ref (E.ad 2), .int a2] S S1 := by
  refine g_startV (cc := cX9_tellFor) (n := 6) (by decide) (Nat.le_of_ble_eq_true rfl) ?_
  intro p e s m args below meth c Q H locs C kR hW ls hl
  obtain ⟨⟨hx, hb, hml, hown, hts⟩, hK, hT⟩ := id C
  have hl : lv_has ls 6 [(0, .ref (E.ad 32)), (1, .ref (E.ad 2)), (2, .int a2)] := hl
  have X9_tellFor_L2_c : ∀ (v2 : Int32) (res : St) (n : Nat) (v3 : Int32) (S : St) (H : Heap) (locs : List Loc) (ls : Array Slot), Ww E S s H locs → lv_has ls 6 [(0, .ref (E.ad 32)), (1, .ref (E.ad 2)), (2, .int v2), (3, .int v3)] → X9_tellFor_L2 v2 n v3 S = some res → (∀ (T : St) (H : Heap) (locs : List Loc) (ls : Array Slot), some T = some res → Ww E T s H locs → lv_has ls 6 [(0, .ref (E.ad 32)), (1, .ref (E.ad 2)), (2, .int v2)] → W p l e rm_X9_tellFor s m args below meth c H locs 0 0 Q (F0 m 25 ls [])) → W p l e rm_X9_tellFor s m args below meth c H locs 0 0 Q (F0 m 2 ls []) := by
    intro v2 res n
    induction n with
    | zero =>
      intro v3 S H locs ls hW hl hf
      cases hf
    | succ n ih =>
      intro v3 S H locs ls hW hl hf kE
      unfold X9_tellFor_L2 at hf
      refine lv_iload_n hx hb dX9_tellFor_2 rfl (lv_at hl 3 rfl) ?_
      refine lv_aload_n hx hb dX9_tellFor_3 rfl (lv_at hl 1 rfl) ?_
      refine g_get (ci := 6) (k := 0) (val := .int (rI S 2 0)) C g_us hW rfl rfl rfl (in_sid _ rfl) (by decide) f_RX9_18 rfl dX9_tellFor_4 ?_
      refine lv_icmp_ge (tgt := 25) hx hb dX9_tellFor_7 (by decide) (fun c1 => ?_) (fun c1 => ?_)
      · replace hf := ift_ hf c1
        exact kE _ _ _ _ hf hW (lv_sub hl [0, 1, 2] rfl)
      · replace hf := iff_ hf c1
        refine lv_aload_n hx hb dX9_tellFor_10 rfl (lv_at hl 0 rfl) ?_
        refine g_get (ci := 9) (k := 0) (val := .ref (E.ad (rR S 32 0))) C g_us hW rfl rfl rfl (in_sid _ rfl) (by decide) f_RX9_9 rfl dX9_tellFor_11 ?_
        refine lv_iload_n hx hb dX9_tellFor_14 rfl (lv_at hl 3 rfl) ?_
        refine lv_iconst (v := 1) hx hb dX9_tellFor_15 (by decide) ?_
        refine lv_iload_n hx hb dX9_tellFor_16 rfl (lv_at hl 3 rfl) ?_
        refine lv_ishl hx hb dX9_tellFor_17 ?_
        replace hf := bd_so hf
        obtain ⟨S2, h3, hf⟩ := hf
        refine g_iast C hW h3 dX9_tellFor_18 (fun H locs hW => ?_)
        refine lv_iinc (v := (v3 + 1)) (lv' := [(3, .int (v3 + 1)), (0, .ref (E.ad 32)), (1, .ref (E.ad 2)), (2, .int v2)]) hx hb dX9_tellFor_19 hl (k := 3) rfl rfl (by decide) rfl (fun ls hl => ?_)
        refine lv_goto (tgt := 2) hx hb dX9_tellFor_22 (by decide) ?_
        exact ih _ _ _ _ _ hW (lv_sub hl [1, 2, 3, 0] rfl) hf kE
  have X9_tellFor_L55_c : ∀ (v2 : Int32) (v3 : Int32) (res : St) (n : Nat) (v5 : Int32) (S : St) (H : Heap) (locs : List Loc) (ls : Array Slot), Ww E S s H locs → lv_has ls 6 [(0, .ref (E.ad 32)), (1, .ref (E.ad 2)), (2, .int v2), (3, .int v3), (5, .int v5)] → X9_tellFor_L55 v2 v3 n v5 S = some res → (∀ (T : St) (H : Heap) (locs : List Loc) (ls : Array Slot), some T = some res → Ww E T s H locs → lv_has ls 6 [(0, .ref (E.ad 32)), (1, .ref (E.ad 2)), (2, .int v2), (3, .int v3)] → W p l e rm_X9_tellFor s m args below meth c H locs 0 0 Q (F0 m 93 ls [])) → W p l e rm_X9_tellFor s m args below meth c H locs 0 0 Q (F0 m 55 ls []) := by
    intro v2 v3 res n
    induction n with
    | zero =>
      intro v5 S H locs ls hW hl hf
      cases hf
    | succ n ih =>
      intro v5 S H locs ls hW hl hf kE
      unfold X9_tellFor_L55 at hf
      refine lv_iload hx hb dX9_tellFor_55 (lv_at hl 4 rfl) ?_
      refine lv_aload_n hx hb dX9_tellFor_57 rfl (lv_at hl 1 rfl) ?_
      refine g_get (ci := 6) (k := 0) (val := .int (rI S 2 0)) C g_us hW rfl rfl rfl (in_sid _ rfl) (by decide) f_RX9_18 rfl dX9_tellFor_58 ?_
      refine lv_icmp_ge (tgt := 93) hx hb dX9_tellFor_61 (by decide) (fun c11 => ?_) (fun c11 => ?_)
      · replace hf := ift_ hf c11
        exact kE _ _ _ _ hf hW (lv_sub hl [0, 1, 2, 3] rfl)
      · replace hf := iff_ hf c11
        refine lv_aload_n hx hb dX9_tellFor_64 rfl (lv_at hl 0 rfl) ?_
        refine g_get (ci := 9) (k := 0) (val := .ref (E.ad (rR S 32 0))) C g_us hW rfl rfl rfl (in_sid _ rfl) (by decide) f_RX9_9 rfl dX9_tellFor_65 ?_
        refine lv_iload hx hb dX9_tellFor_68 (lv_at hl 4 rfl) ?_
        refine lv_aload_n hx hb dX9_tellFor_70 rfl (lv_at hl 0 rfl) ?_
        refine g_get (ci := 9) (k := 1) (val := .ref (E.ad (rR S 32 1))) C g_us hW rfl rfl rfl (in_sid _ rfl) (by decide) f_RX9_15 rfl dX9_tellFor_71 ?_
        refine lv_iload hx hb dX9_tellFor_74 (lv_at hl 4 rfl) ?_
        replace hf := bd_so hf
        obtain ⟨x12, h13, hf⟩ := hf
        refine g_iald C hW h13 dX9_tellFor_76 ?_
        refine lv_aload_n hx hb dX9_tellFor_77 rfl (lv_at hl 0 rfl) ?_
        refine lv_aload_n hx hb dX9_tellFor_78 rfl (lv_at hl 1 rfl) ?_
        refine lv_iload hx hb dX9_tellFor_79 (lv_at hl 4 rfl) ?_
        refine lv_iload_n hx hb dX9_tellFor_81 rfl (lv_at hl 3 rfl) ?_
        replace hf := bd_so hf
        obtain ⟨x15, h14, hf⟩ := hf
        refine g_callVi (ci := 9) (As := [.ref (E.ad 2), .int v5, .int v3]) (rest := [.int x12, .int v5, .ref (E.ad (rR S 32 0))]) C g_us hW hl.1 (c_X9_toldTo l E S v5 v3 _ h14) rfl rfl rfl (in_sid _ rfl) k_RX9_24 rfl ⟨rfl, rfl⟩ ⟨Nat.le_of_ble_eq_true rfl, Nat.le_of_ble_eq_true rfl⟩ ⟨Nat.zero_le _, Nat.zero_le _⟩ _ rfl (Nat.le_of_ble_eq_true rfl) dX9_tellFor_82 (fun H locs hW => ?_)
        refine lv_ior hx hb dX9_tellFor_85 ?_
        replace hf := bd_so hf
        obtain ⟨S16, h17, hf⟩ := hf
        refine g_iast C hW h17 dX9_tellFor_86 (fun H locs hW => ?_)
        refine lv_iinc (v := (v5 + 1)) (lv' := [(5, .int (v5 + 1)), (0, .ref (E.ad 32)), (1, .ref (E.ad 2)), (2, .int v2), (3, .int v3)]) hx hb dX9_tellFor_87 hl (k := 4) rfl rfl (by decide) rfl (fun ls hl => ?_)
        refine lv_goto (tgt := 55) hx hb dX9_tellFor_90 (by decide) ?_
        exact ih _ _ _ _ _ hW (lv_sub hl [1, 2, 3, 4, 0] rfl) hf kE
  have X9_tellFor_L27_c : ∀ (v2 : Int32) (res : St) (n : Nat) (v3 : Int32) (S : St) (H : Heap) (locs : List Loc) (ls : Array Slot), Ww E S s H locs → lv_has ls 6 [(0, .ref (E.ad 32)), (1, .ref (E.ad 2)), (2, .int v2), (3, .int v3)] → X9_tellFor_L27 v2 n v3 S = some res → (∀ (T : St) (H : Heap) (locs : List Loc) (ls : Array Slot), some T = some res → Ww E T s H locs → lv_has ls 6 [] → W p l e rm_X9_tellFor s m args below meth c H locs 0 0 Q (F0 m 99 ls [])) → W p l e rm_X9_tellFor s m args below meth c H locs 0 0 Q (F0 m 27 ls []) := by
    intro v2 res n
    induction n with
    | zero =>
      intro v3 S H locs ls hW hl hf
      cases hf
    | succ n ih =>
      intro v3 S H locs ls hW hl hf kE
      unfold X9_tellFor_L27 at hf
      refine lv_iload_n hx hb dX9_tellFor_27 rfl (lv_at hl 3 rfl) ?_
      refine lv_iload_n hx hb dX9_tellFor_28 rfl (lv_at hl 2 rfl) ?_
      refine lv_icmp_gt (tgt := 99) hx hb dX9_tellFor_29 (by decide) (fun c6 => ?_) (fun c6 => ?_)
      · replace hf := ift_ hf c6
        exact kE _ _ _ _ hf hW (lv_sub hl [] rfl)
      · replace hf := iff_ hf c6
        refine lv_aload_n hx hb dX9_tellFor_32 rfl (lv_at hl 0 rfl) ?_
        refine g_get (ci := 9) (k := 1) (val := .ref (E.ad (rR S 32 1))) C g_us hW rfl rfl rfl (in_sid _ rfl) (by decide) f_RX9_15 rfl dX9_tellFor_33 ?_
        refine lv_astore (lv' := [(4, .ref (E.ad (rR S 32 1))), (0, .ref (E.ad 32)), (1, .ref (E.ad 2)), (2, .int v2), (3, .int v3)]) hx hb dX9_tellFor_36 hl (by decide) rfl (fun ls hl => ?_)
        refine lv_aload_n hx hb dX9_tellFor_38 rfl (lv_at hl 1 rfl) ?_
        refine lv_aload_n hx hb dX9_tellFor_39 rfl (lv_at hl 1 rfl) ?_
        refine g_get (ci := 9) (k := 0) (val := .ref (E.ad (rR S 32 0))) C g_us hW rfl rfl rfl (in_sid _ rfl) (by decide) f_RX9_9 rfl dX9_tellFor_40 ?_
        replace hf := bd_so hf
        obtain ⟨S7, h8, hf⟩ := hf
        refine g_putR (ci := 9) (k := 1) C g_us hW rfl rfl rfl (in_sid _ rfl) (by decide) f_RX9_15 rfl rfl rfl (by decide) h8 dX9_tellFor_43 (fun H locs hW => ?_)
        refine lv_aload_n hx hb dX9_tellFor_46 rfl (lv_at hl 1 rfl) ?_
        refine lv_aload hx hb dX9_tellFor_47 (lv_at hl 0 rfl) ?_
        replace hf := bd_so hf
        obtain ⟨S9, h10, hf⟩ := hf
        refine g_putR (ci := 9) (k := 0) C g_us hW rfl rfl rfl (in_sid _ rfl) (by decide) f_RX9_9 rfl rfl rfl (by decide) h10 dX9_tellFor_49 (fun H locs hW => ?_)
        refine lv_iconst (v := 0) hx hb dX9_tellFor_52 (by decide) ?_
        refine lv_istore (lv' := [(5, .int 0), (4, .ref (E.ad (rR S 32 1))), (0, .ref (E.ad 32)), (1, .ref (E.ad 2)), (2, .int v2), (3, .int v3)]) hx hb dX9_tellFor_53 hl (by decide) rfl (fun ls hl => ?_)
        replace hf := bd_so hf
        obtain ⟨S18, h19, hf⟩ := hf
        have J20 : ∀ (H : Heap) (locs : List Loc) (ls : Array Slot), Ww E S18 s H locs → lv_has ls 6 [(0, .ref (E.ad 32)), (1, .ref (E.ad 2)), (2, .int v2), (3, .int v3)] → W p l e rm_X9_tellFor s m args below meth c H locs 0 0 Q (F0 m 93 ls []) := by
          intro H locs ls hW hl
          refine lv_iinc (v := (v3 + 1)) (lv' := [(3, .int (v3 + 1)), (0, .ref (E.ad 32)), (1, .ref (E.ad 2)), (2, .int v2)]) hx hb dX9_tellFor_93 hl (k := 3) rfl rfl (by decide) rfl (fun ls hl => ?_)
          refine lv_goto (tgt := 27) hx hb dX9_tellFor_96 (by decide) ?_
          exact ih _ _ _ _ _ hW (lv_sub hl [1, 2, 3, 0] rfl) hf kE
        exact X9_tellFor_L55_c _ _ _ FU _ _ _ _ _ hW (lv_sub hl [2, 3, 4, 5, 0] rfl) h19 (fun _ H locs ls e hW hl => by cases e; exact J20 H locs ls hW hl)
  unfold X9_tellFor at hf
  refine lv_iconst (v := 0) hx hb dX9_tellFor_0 (by decide) ?_
  refine lv_istore_n (lv' := [(3, .int 0), (0, .ref (E.ad 32)), (1, .ref (E.ad 2)), (2, .int a2)]) hx hb dX9_tellFor_1 rfl hl (by decide) rfl (fun ls hl => ?_)
  replace hf := bd_so hf
  obtain ⟨S4, h5, hf⟩ := hf
  have J24 : ∀ (H : Heap) (locs : List Loc) (ls : Array Slot), Ww E S4 s H locs → lv_has ls 6 [(0, .ref (E.ad 32)), (1, .ref (E.ad 2)), (2, .int a2)] → W p l e rm_X9_tellFor s m args below meth c H locs 0 0 Q (F0 m 25 ls []) := by
    intro H locs ls hW hl
    refine lv_iconst (v := 1) hx hb dX9_tellFor_25 (by decide) ?_
    refine lv_istore_n (lv' := [(3, .int 1), (0, .ref (E.ad 32)), (1, .ref (E.ad 2)), (2, .int a2)]) hx hb dX9_tellFor_26 rfl hl (by decide) rfl (fun ls hl => ?_)
    replace hf := bd_so hf
    obtain ⟨S21, h22, hf⟩ := hf
    have J23 : ∀ (H : Heap) (locs : List Loc) (ls : Array Slot), Ww E S21 s H locs → lv_has ls 6 [] → W p l e rm_X9_tellFor s m args below meth c H locs 0 0 Q (F0 m 99 ls []) := by
      intro H locs ls hW hl
      obtain rfl := so1 hf
      exact kR _ _ _ _ hW dX9_tellFor_99
    exact X9_tellFor_L27_c _ _ FU _ _ _ _ _ hW (lv_sub hl [1, 2, 3, 0] rfl) h22 (fun _ H locs ls e hW hl => by cases e; exact J23 H locs ls hW hl)
  exact X9_tellFor_L2_c _ _ FU _ _ _ _ _ hW (lv_sub hl [1, 2, 3, 0] rfl) h5 (fun _ H locs ls e hW hl => by cases e; exact J24 H locs ls hW hl)

abbrev rm_X9_knownTo : Room := { frames := 1, cells := 0, slots := 0, locals := 60 }
set_option maxHeartbeats 4000000 in
set_option maxRecDepth 100000 in
theorem c_X9_knownTo (l : Launch) (E : En) (S : St) (a1 : Int32) (r : Int32) (hf : X9_knownTo S a1 = some r) : Mi l E yX9_knownTo cX9_knownTo 2 (some .int) rm_X9_knownTo [.ref (E.ad 32), .int a1] S r S := by
  refine g_startI (cc := cX9_knownTo) (n := 2) (by decide) (Nat.le_of_ble_eq_true rfl) ?_
  intro p e s m args below meth c Q H locs C kR hW ls hl
  obtain ⟨⟨hx, hb, hml, hown, hts⟩, hK, hT⟩ := id C
  have hl : lv_has ls 2 [(0, .ref (E.ad 32)), (1, .int a1)] := hl
  unfold X9_knownTo at hf
  refine lv_aload_n hx hb dX9_knownTo_0 rfl (lv_at hl 0 rfl) ?_
  refine g_get (ci := 9) (k := 0) (val := .ref (E.ad (rR S 32 0))) C g_us hW rfl rfl rfl (in_sid _ rfl) (by decide) f_RX9_9 rfl dX9_knownTo_1 ?_
  refine lv_iload_n hx hb dX9_knownTo_4 rfl (lv_at hl 1 rfl) ?_
  replace hf := bd_so hf
  obtain ⟨x1, h2, hf⟩ := hf
  refine g_iald C hW h2 dX9_knownTo_5 ?_
  obtain rfl := so1 hf
  exact kR _ _ _ _ hW dX9_knownTo_6
