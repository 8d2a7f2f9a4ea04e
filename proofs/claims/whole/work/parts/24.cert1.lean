abbrev rm_X11_type : Room := { frames := 2, cells := 0, slots := 0, locals := 85 }
set_option maxHeartbeats 4000000 in
set_option maxRecDepth 100000 in
theorem c_X11_type (l : Launch) (E : En) (S : St) (a1 : Int64) (a3 : Int32) (r : Int32) (S1 : St) (hf : X11_type S a1 a3 = some (r, S1)) : Mi l E yX11_type cX11_type 5 (some .int) rm_X11_type [.ref (E.ad 60), .long a1, .int a3] S r S1 := by
  refine g_startI (cc := cX11_type) (n := 5) (by decide) (Nat.le_of_ble_eq_true rfl) ?_
  intro p e s m args below meth c Q H locs C kR hW ls hl
  obtain ⟨⟨hx, hb, hml, hown, hts⟩, hK, hT⟩ := id C
  have hl : lv_has ls 5 [(0, .ref (E.ad 60)), (1, .long a1), (3, .int a3)] := hl
  have X11_type_L17_c : ∀ (S : St) (v1 : Int64) (v3 : Int32) (res : (Unit) ⊕ (Int32 × St)) (n : Nat) (v4 : Int32) (H : Heap) (locs : List Loc) (ls : Array Slot), Ww E S s H locs → lv_has ls 5 [(0, .ref (E.ad 60)), (1, .long v1), (3, .int v3), (4, .int v4)] → X11_type_L17 S v1 v3 n v4 = some res → (∀ (H : Heap) (locs : List Loc) (ls : Array Slot), some (.inl ()) = some res → Ww E S s H locs → lv_has ls 5 [(0, .ref (E.ad 60)), (1, .long v1), (3, .int v3)] → W p l e rm_X11_type s m args below meth c H locs 0 0 Q (F0 m 54 ls [])) → (∀ (r0 : Int32) (T : St) (H : Heap) (locs : List Loc) (pc : Nat) (ls : Array Slot), some (.inr (r0, T)) = some res → Ww E T s H locs → decode cX11_type pc = .ok (.ireturn, 1) → W p l e rm_X11_type s m args below meth c H locs 0 0 Q (F0 m pc ls [.int r0])) → W p l e rm_X11_type s m args below meth c H locs 0 0 Q (F0 m 17 ls []) := by
    intro S v1 v3 res n
    induction n with
    | zero =>
      intro v4 H locs ls hW hl hf
      cases hf
    | succ n ih =>
      intro v4 H locs ls hW hl hf kE kR
      unfold X11_type_L17 at hf
      refine lv_iload hx hb dX11_type_17 (lv_at hl 3 rfl) ?_
      refine lv_iload_n hx hb dX11_type_19 rfl (lv_at hl 2 rfl) ?_
      refine lv_icmp_ge (tgt := 54) hx hb dX11_type_20 (by decide) (fun c4 => ?_) (fun c4 => ?_)
      · replace hf := ift_ hf c4
        exact kE  _ _ _ hf hW (lv_sub hl [0, 1, 2] rfl)
      · replace hf := iff_ hf c4
        refine lv_lload_n hx hb dX11_type_23 rfl (lv_at hl 1 rfl) ?_
        refine lv_bipush (v := 8) hx hb dX11_type_24 (by decide) ?_
        refine lv_iload hx hb dX11_type_26 (lv_at hl 3 rfl) ?_
        refine lv_imul hx hb dX11_type_28 ?_
        refine lv_lshr (v := (v1 >>> (((8 * v4) : Int32).toInt64 &&& 63))) hx hb dX11_type_29 rfl ?_
        refine lv_ldc2 hx hb hown (hts _ (g_us _ q_RX11_145)) dX11_type_30 ?_
        refine lv_land hx hb dX11_type_33 ?_
        refine lv_ldc2 hx hb hown (hts _ (g_us _ q_RX11_147)) dX11_type_34 ?_
        refine lv_ldc2 hx hb hown (hts _ (g_us _ q_RX11_149)) dX11_type_37 ?_
        replace hf := bd_so hf
        obtain ⟨x6, h5, hf⟩ := hf
        refine g_callSi (As := [.long ((v1 >>> (((8 * v4) : Int32).toInt64 &&& 63)) &&& 255), .long 32, .long 126]) (rest := []) C g_us hW hl.1 (c_X11_in l E S ((v1 >>> (((8 * v4) : Int32).toInt64 &&& 63)) &&& 255) 32 126 _ h5) k_RX11_72 rfl ⟨rfl, rfl⟩ ⟨Nat.le_of_ble_eq_true rfl, Nat.le_of_ble_eq_true rfl⟩ ⟨Nat.zero_le _, Nat.zero_le _⟩ _ rfl (Nat.le_of_ble_eq_true rfl) dX11_type_40 (fun H locs hW => ?_)
        refine lv_if_ne (tgt := 48) hx hb dX11_type_43 (by decide) (fun c7 => ?_) (fun c7 => ?_)
        · replace hf := iff_ hf c7
          refine lv_iinc (v := (v4 + 1)) (lv' := [(4, .int (v4 + 1)), (0, .ref (E.ad 60)), (1, .long v1), (3, .int v3)]) hx hb dX11_type_48 hl (k := 3) rfl rfl (by decide) rfl (fun ls hl => ?_)
          refine lv_goto (tgt := 17) hx hb dX11_type_51 (by decide) ?_
          exact ih _ _ _ _ hW (lv_sub hl [1, 2, 3, 0] rfl) hf kE kR
        · replace hf := ift_ hf c7
          refine lv_iconst (v := (-1)) hx hb dX11_type_46 (by decide) ?_
          exact kR _ _ _ _ _ _ hf hW dX11_type_47
  have X11_type_L73_c : ∀ (v1 : Int64) (res : St) (n : Nat) (v4 : Int32) (S : St) (H : Heap) (locs : List Loc) (ls : Array Slot), Ww E S s H locs → lv_has ls 5 [(0, .ref (E.ad 60)), (1, .long v1), (4, .int v4)] → X11_type_L73 v1 n v4 S = some res → (∀ (T : St) (H : Heap) (locs : List Loc) (ls : Array Slot), some T = some res → Ww E T s H locs → lv_has ls 5 [(0, .ref (E.ad 60))] → W p l e rm_X11_type s m args below meth c H locs 0 0 Q (F0 m 115 ls [])) → W p l e rm_X11_type s m args below meth c H locs 0 0 Q (F0 m 73 ls []) := by
    intro v1 res n
    induction n with
    | zero =>
      intro v4 S H locs ls hW hl hf
      cases hf
    | succ n ih =>
      intro v4 S H locs ls hW hl hf kE
      unfold X11_type_L73 at hf
      refine lv_iload hx hb dX11_type_73 (lv_at hl 2 rfl) ?_
      refine lv_if_lt (tgt := 115) hx hb dX11_type_75 (by decide) (fun c10 => ?_) (fun c10 => ?_)
      · replace hf := ift_ hf c10
        exact kE _ _ _ _ hf hW (lv_sub hl [0] rfl)
      · replace hf := iff_ hf c10
        refine lv_aload_n hx hb dX11_type_78 rfl (lv_at hl 0 rfl) ?_
        refine g_get (ci := 11) (k := 4) (val := .ref (E.ad 65)) C g_us hW rfl rfl rfl (in_sid _ rfl) (by decide) f_RX11_23 rfl dX11_type_79 ?_
        refine lv_aload_n hx hb dX11_type_82 rfl (lv_at hl 0 rfl) ?_
        refine g_get (ci := 11) (k := 5) (val := .int (rI S 60 5)) C g_us hW rfl rfl rfl (in_sid _ rfl) (by decide) f_RX11_151 rfl dX11_type_83 ?_
        refine lv_lload_n hx hb dX11_type_86 rfl (lv_at hl 1 rfl) ?_
        refine lv_bipush (v := 8) hx hb dX11_type_87 (by decide) ?_
        refine lv_iload hx hb dX11_type_89 (lv_at hl 2 rfl) ?_
        refine lv_imul hx hb dX11_type_91 ?_
        refine lv_lshr (v := (v1 >>> (((8 * v4) : Int32).toInt64 &&& 63))) hx hb dX11_type_92 rfl ?_
        refine lv_ldc2 hx hb hown (hts _ (g_us _ q_RX11_145)) dX11_type_93 ?_
        refine lv_land hx hb dX11_type_96 ?_
        refine lv_l2i (v := (((v1 >>> (((8 * v4) : Int32).toInt64 &&& 63)) &&& 255) : Int64).toInt32) hx hb dX11_type_97 rfl ?_
        replace hf := bd_so hf
        obtain ⟨S11, h12, hf⟩ := hf
        refine g_iast C hW h12 dX11_type_98 (fun H locs hW => ?_)
        refine lv_aload_n hx hb dX11_type_99 rfl (lv_at hl 0 rfl) ?_
        refine lv_dup hx hb dX11_type_100 rfl ?_
        refine g_get (ci := 11) (k := 5) (val := .int (rI S11 60 5)) C g_us hW rfl rfl rfl (in_sid _ rfl) (by decide) f_RX11_151 rfl dX11_type_101 ?_
        refine lv_iconst (v := 1) hx hb dX11_type_104 (by decide) ?_
        refine lv_iadd hx hb dX11_type_105 ?_
        replace hf := bd_so hf
        obtain ⟨S13, h14, hf⟩ := hf
        refine g_putI (ci := 11) (k := 5) C g_us hW rfl rfl rfl (in_sid _ rfl) (by decide) f_RX11_151 rfl rfl rfl h14 dX11_type_106 (fun H locs hW => ?_)
        refine lv_iinc (v := (v4 + (-1))) (lv' := [(4, .int (v4 + (-1))), (0, .ref (E.ad 60)), (1, .long v1)]) hx hb dX11_type_109 hl (k := 2) rfl rfl (by decide) rfl (fun ls hl => ?_)
        refine lv_goto (tgt := 73) hx hb dX11_type_112 (by decide) ?_
        exact ih _ _ _ _ _ hW (lv_sub hl [1, 2, 0] rfl) hf kE
  unfold X11_type at hf
  refine lv_iload_n hx hb dX11_type_0 rfl (lv_at hl 2 rfl) ?_
  refine lv_i2l (v := (a3 : Int32).toInt64) hx hb dX11_type_1 rfl ?_
  refine lv_lconst (v := 1) hx hb dX11_type_2 (by decide) ?_
  refine lv_ldc2 hx hb hown (hts _ (g_us _ q_RX11_140)) dX11_type_3 ?_
  replace hf := bd_so hf
  obtain ⟨x2, h1, hf⟩ := hf
  refine g_callSi (As := [.long ((a3 : Int32).toInt64), .long 1, .long 8]) (rest := []) C g_us hW hl.1 (c_X11_in l E S ((a3 : Int32).toInt64) 1 8 _ h1) k_RX11_72 rfl ⟨rfl, rfl⟩ ⟨Nat.le_of_ble_eq_true rfl, Nat.le_of_ble_eq_true rfl⟩ ⟨Nat.zero_le _, Nat.zero_le _⟩ _ rfl (Nat.le_of_ble_eq_true rfl) dX11_type_6 (fun H locs hW => ?_)
  refine lv_if_ne (tgt := 14) hx hb dX11_type_9 (by decide) (fun c3 => ?_) (fun c3 => ?_)
  · replace hf := iff_ hf c3
    refine lv_iconst (v := 0) hx hb dX11_type_14 (by decide) ?_
    refine lv_istore (lv' := [(4, .int 0), (0, .ref (E.ad 60)), (1, .long a1), (3, .int a3)]) hx hb dX11_type_15 hl (by decide) rfl (fun ls hl => ?_)
    replace hf := bd_so hf
    obtain ⟨t, h8, hf⟩ := hf
    rcases t with u | ⟨x19, S20⟩
    · dsimp only at hf
      have J18 : ∀ (H : Heap) (locs : List Loc) (ls : Array Slot), Ww E S s H locs → lv_has ls 5 [(0, .ref (E.ad 60)), (1, .long a1), (3, .int a3)] → W p l e rm_X11_type s m args below meth c H locs 0 0 Q (F0 m 54 ls []) := by
        intro H locs ls hW hl
        refine lv_aload_n hx hb dX11_type_54 rfl (lv_at hl 0 rfl) ?_
        refine g_get (ci := 11) (k := 5) (val := .int (rI S 60 5)) C g_us hW rfl rfl rfl (in_sid _ rfl) (by decide) f_RX11_151 rfl dX11_type_55 ?_
        refine lv_iload_n hx hb dX11_type_58 rfl (lv_at hl 2 rfl) ?_
        refine lv_iadd hx hb dX11_type_59 ?_
        refine lv_bipush (v := 120) hx hb dX11_type_60 (by decide) ?_
        refine lv_icmp_le (tgt := 68) hx hb dX11_type_62 (by decide) (fun c9 => ?_) (fun c9 => ?_)
        · replace hf := ift_ hf c9
          refine lv_iload_n hx hb dX11_type_68 rfl (lv_at hl 2 rfl) ?_
          refine lv_iconst (v := 1) hx hb dX11_type_69 (by decide) ?_
          refine lv_isub hx hb dX11_type_70 ?_
          refine lv_istore (lv' := [(4, .int (a3 - 1)), (0, .ref (E.ad 60)), (1, .long a1), (3, .int a3)]) hx hb dX11_type_71 hl (by decide) rfl (fun ls hl => ?_)
          replace hf := bd_so hf
          obtain ⟨S15, h16, hf⟩ := hf
          have J17 : ∀ (H : Heap) (locs : List Loc) (ls : Array Slot), Ww E S15 s H locs → lv_has ls 5 [(0, .ref (E.ad 60))] → W p l e rm_X11_type s m args below meth c H locs 0 0 Q (F0 m 115 ls []) := by
            intro H locs ls hW hl
            refine lv_aload_n hx hb dX11_type_115 rfl (lv_at hl 0 rfl) ?_
            refine g_get (ci := 11) (k := 5) (val := .int (rI S15 60 5)) C g_us hW rfl rfl rfl (in_sid _ rfl) (by decide) f_RX11_151 rfl dX11_type_116 ?_
            obtain ⟨rfl, rfl⟩ := so2 hf
            exact kR _ _ _ _ hW dX11_type_119
          exact X11_type_L73_c _ _ FU _ _ _ _ _ hW (lv_sub hl [1, 2, 0] rfl) h16 (fun _ H locs ls e hW hl => by cases e; exact J17 H locs ls hW hl)
        · replace hf := iff_ hf c9
          refine lv_bipush (v := (-3)) hx hb dX11_type_65 (by decide) ?_
          obtain ⟨rfl, rfl⟩ := so2 hf
          exact kR _ _ _ _ hW dX11_type_67
      exact X11_type_L17_c _ _ _ _ FU _ _ _ _ hW (lv_sub hl [1, 2, 3, 0] rfl) h8 (fun H locs ls e hW hl => by cases e; exact J18 H locs ls hW hl) (fun _ _ H locs pc ls e hW dd => by cases e)
    · dsimp only at hf
      refine X11_type_L17_c _ _ _ _ FU _ _ _ _ hW (lv_sub hl [1, 2, 3, 0] rfl) h8 (fun H locs ls e hW hl => by cases e) (fun _ _ H locs pc ls e hW dd => ?_)
      cases e
      obtain ⟨rfl, rfl⟩ := so2 hf
      exact kR _ _ _ _ hW dd
  · replace hf := ift_ hf c3
    refine lv_iconst (v := (-1)) hx hb dX11_type_12 (by decide) ?_
    obtain ⟨rfl, rfl⟩ := so2 hf
    exact kR _ _ _ _ hW dX11_type_13

abbrev rm_X11_next : Room := { frames := 1, cells := 0, slots := 0, locals := 60 }
set_option maxHeartbeats 4000000 in
set_option maxRecDepth 100000 in
theorem c_X11_next (l : Launch) (E : En) (S : St) (r : Int32) (S1 : St) (hf : X11_next S  = some (r, S1)) : Mi l E yX11_next cX11_next 1 (some .int) rm_X11_next [.ref (E.ad 60)] S r S1 := by
  refine g_startI (cc := cX11_next) (n := 1) (by decide) (Nat.le_of_ble_eq_true rfl) ?_
  intro p e s m args below meth c Q H locs C kR hW ls hl
  obtain ⟨⟨hx, hb, hml, hown, hts⟩, hK, hT⟩ := id C
  have hl : lv_has ls 1 [(0, .ref (E.ad 60))] := hl
  have X11_next_L0_c : ∀ (res : St) (n : Nat) (S : St) (H : Heap) (locs : List Loc) (ls : Array Slot), Ww E S s H locs → lv_has ls 1 [(0, .ref (E.ad 60))] → X11_next_L0  n  S = some res → (∀ (T : St) (H : Heap) (locs : List Loc) (ls : Array Slot), some T = some res → Ww E T s H locs → lv_has ls 1 [(0, .ref (E.ad 60))] → W p l e rm_X11_next s m args below meth c H locs 0 0 Q (F0 m 38 ls [])) → W p l e rm_X11_next s m args below meth c H locs 0 0 Q (F0 m 0 ls []) := by
    intro  res n
    induction n with
    | zero =>
      intro  S H locs ls hW hl hf
      cases hf
    | succ n ih =>
      intro  S H locs ls hW hl hf kE
      unfold X11_next_L0 at hf
      refine lv_aload_n hx hb dX11_next_0 rfl (lv_at hl 0 rfl) ?_
      refine g_get (ci := 11) (k := 6) (val := .int (rI S 60 6)) C g_us hW rfl rfl rfl (in_sid _ rfl) (by decide) f_RX11_155 rfl dX11_next_1 ?_
      refine lv_aload_n hx hb dX11_next_4 rfl (lv_at hl 0 rfl) ?_
      refine g_get (ci := 11) (k := 5) (val := .int (rI S 60 5)) C g_us hW rfl rfl rfl (in_sid _ rfl) (by decide) f_RX11_151 rfl dX11_next_5 ?_
      refine lv_icmp_ge (tgt := 38) hx hb dX11_next_8 (by decide) (fun c1 => ?_) (fun c1 => ?_)
      · replace hf := ift_ hf c1
        exact kE _ _ _ _ hf hW (lv_sub hl [0] rfl)
      · replace hf := iff_ hf c1
        refine lv_aload_n hx hb dX11_next_11 rfl (lv_at hl 0 rfl) ?_
        refine g_get (ci := 11) (k := 4) (val := .ref (E.ad 65)) C g_us hW rfl rfl rfl (in_sid _ rfl) (by decide) f_RX11_23 rfl dX11_next_12 ?_
        refine lv_aload_n hx hb dX11_next_15 rfl (lv_at hl 0 rfl) ?_
        refine g_get (ci := 11) (k := 6) (val := .int (rI S 60 6)) C g_us hW rfl rfl rfl (in_sid _ rfl) (by decide) f_RX11_155 rfl dX11_next_16 ?_
        replace hf := bd_so hf
        obtain ⟨x2, h3, hf⟩ := hf
        refine g_iald C hW h3 dX11_next_19 ?_
        refine lv_bipush (v := 32) hx hb dX11_next_20 (by decide) ?_
        refine lv_icmp_ne (tgt := 38) hx hb dX11_next_22 (by decide) (fun c4 => ?_) (fun c4 => ?_)
        · replace hf := iff_ hf c4
          exact kE _ _ _ _ hf hW (lv_sub hl [0] rfl)
        · replace hf := ift_ hf c4
          refine lv_aload_n hx hb dX11_next_25 rfl (lv_at hl 0 rfl) ?_
          refine lv_dup hx hb dX11_next_26 rfl ?_
          refine g_get (ci := 11) (k := 6) (val := .int (rI S 60 6)) C g_us hW rfl rfl rfl (in_sid _ rfl) (by decide) f_RX11_155 rfl dX11_next_27 ?_
          refine lv_iconst (v := 1) hx hb dX11_next_30 (by decide) ?_
          refine lv_iadd hx hb dX11_next_31 ?_
          replace hf := bd_so hf
          obtain ⟨S5, h6, hf⟩ := hf
          refine g_putI (ci := 11) (k := 6) C g_us hW rfl rfl rfl (in_sid _ rfl) (by decide) f_RX11_155 rfl rfl rfl h6 dX11_next_32 (fun H locs hW => ?_)
          refine lv_goto (tgt := 0) hx hb dX11_next_35 (by decide) ?_
          exact ih _ _ _ _ hW (lv_sub hl [0] rfl) hf kE
  unfold X11_next at hf
  replace hf := bd_so hf
  obtain ⟨S7, h8, hf⟩ := hf
  have J12 : ∀ (H : Heap) (locs : List Loc) (ls : Array Slot), Ww E S7 s H locs → lv_has ls 1 [(0, .ref (E.ad 60))] → W p l e rm_X11_next s m args below meth c H locs 0 0 Q (F0 m 38 ls []) := by
    intro H locs ls hW hl
    refine lv_aload_n hx hb dX11_next_38 rfl (lv_at hl 0 rfl) ?_
    refine g_get (ci := 11) (k := 6) (val := .int (rI S7 60 6)) C g_us hW rfl rfl rfl (in_sid _ rfl) (by decide) f_RX11_155 rfl dX11_next_39 ?_
    refine lv_aload_n hx hb dX11_next_42 rfl (lv_at hl 0 rfl) ?_
    refine g_get (ci := 11) (k := 5) (val := .int (rI S7 60 5)) C g_us hW rfl rfl rfl (in_sid _ rfl) (by decide) f_RX11_151 rfl dX11_next_43 ?_
    refine lv_icmp_ge (tgt := 61) hx hb dX11_next_46 (by decide) (fun c9 => ?_) (fun c9 => ?_)
    · replace hf := ift_ hf c9
      refine lv_iconst (v := 0) hx hb dX11_next_61 (by decide) ?_
      obtain ⟨rfl, rfl⟩ := so2 hf
      exact kR _ _ _ _ hW dX11_next_62
    · replace hf := iff_ hf c9
      refine lv_aload_n hx hb dX11_next_49 rfl (lv_at hl 0 rfl) ?_
      refine g_get (ci := 11) (k := 4) (val := .ref (E.ad 65)) C g_us hW rfl rfl rfl (in_sid _ rfl) (by decide) f_RX11_23 rfl dX11_next_50 ?_
      refine lv_aload_n hx hb dX11_next_53 rfl (lv_at hl 0 rfl) ?_
      refine g_get (ci := 11) (k := 6) (val := .int (rI S7 60 6)) C g_us hW rfl rfl rfl (in_sid _ rfl) (by decide) f_RX11_155 rfl dX11_next_54 ?_
      replace hf := bd_so hf
      obtain ⟨x10, h11, hf⟩ := hf
      refine g_iald C hW h11 dX11_next_57 ?_
      refine lv_goto (tgt := 62) hx hb dX11_next_58 (by decide) ?_
      obtain ⟨rfl, rfl⟩ := so2 hf
      exact kR _ _ _ _ hW dX11_next_62
  exact X11_next_L0_c _ FU _ _ _ _ hW (lv_sub hl [0] rfl) h8 (fun _ H locs ls e hW hl => by cases e; exact J12 H locs ls hW hl)

abbrev rm_X11_reads : Room := { frames := 2, cells := 0, slots := 0, locals := 85 }
set_option maxHeartbeats 4000000 in
set_option maxRecDepth 100000 in
theorem c_X11_reads (l : Launch) (E : En) (S : St) (a1 : Int32) (a2 : Int32) (r : Int32) (S1 : St) (hf : X11_reads S a1 a2 = some (r, S1)) : Mi l E yX11_reads cX11_reads 8 (some .int) rm_X11_reads [.ref (E.ad 60), .int a1, .int a2] S r S1 := by
  refine g_startI (cc := cX11_reads) (n := 8) (by decide) (Nat.le_of_ble_eq_true rfl) ?_
  intro p e s m args below meth c Q H locs C kR hW ls hl
  obtain ⟨⟨hx, hb, hml, hown, hts⟩, hK, hT⟩ := id C
  have hl : lv_has ls 8 [(0, .ref (E.ad 60)), (1, .int a1), (2, .int a2)] := hl
  have X11_reads_L123_c : ∀ (v1 : Int32) (v5 : Int32) (v6 : Int32) (res : St) (n : Nat) (v7 : Int32) (S : St) (H : Heap) (locs : List Loc) (ls : Array Slot), Ww E S s H locs → lv_has ls 8 [(0, .ref (E.ad 60)), (1, .int v1), (5, .int v5), (6, .int v6), (7, .int v7)] → X11_reads_L123 v1 v5 v6 n v7 S = some res → (∀ (T : St) (H : Heap) (locs : List Loc) (ls : Array Slot), some T = some res → Ww E T s H locs → lv_has ls 8 [(0, .ref (E.ad 60)), (1, .int v1), (6, .int v6)] → W p l e rm_X11_reads s m args below meth c H locs 0 0 Q (F0 m 147 ls [])) → W p l e rm_X11_reads s m args below meth c H locs 0 0 Q (F0 m 123 ls []) := by
    intro v1 v5 v6 res n
    induction n with
    | zero =>
      intro v7 S H locs ls hW hl hf
      cases hf
    | succ n ih =>
      intro v7 S H locs ls hW hl hf kE
      unfold X11_reads_L123 at hf
      refine lv_iload hx hb dX11_reads_123 (lv_at hl 4 rfl) ?_
      refine lv_iload hx hb dX11_reads_125 (lv_at hl 3 rfl) ?_
      refine lv_icmp_ge (tgt := 147) hx hb dX11_reads_127 (by decide) (fun c25 => ?_) (fun c25 => ?_)
      · replace hf := ift_ hf c25
        exact kE _ _ _ _ hf hW (lv_sub hl [0, 1, 3] rfl)
      · replace hf := iff_ hf c25
        refine lv_aload_n hx hb dX11_reads_130 rfl (lv_at hl 0 rfl) ?_
        refine g_get (ci := 11) (k := 7) (val := .ref (E.ad 66)) C g_us hW rfl rfl rfl (in_sid _ rfl) (by decide) f_RX11_26 rfl dX11_reads_131 ?_
        refine lv_iload_n hx hb dX11_reads_134 rfl (lv_at hl 1 rfl) ?_
        refine lv_iload hx hb dX11_reads_135 (lv_at hl 4 rfl) ?_
        refine lv_iadd hx hb dX11_reads_137 ?_
        refine lv_iload hx hb dX11_reads_138 (lv_at hl 2 rfl) ?_
        replace hf := bd_so hf
        obtain ⟨S26, h27, hf⟩ := hf
        refine g_iast C hW h27 dX11_reads_140 (fun H locs hW => ?_)
        refine lv_iinc (v := (v7 + 1)) (lv' := [(7, .int (v7 + 1)), (0, .ref (E.ad 60)), (1, .int v1), (5, .int v5), (6, .int v6)]) hx hb dX11_reads_141 hl (k := 4) rfl rfl (by decide) rfl (fun ls hl => ?_)
        refine lv_goto (tgt := 123) hx hb dX11_reads_144 (by decide) ?_
        exact ih _ _ _ _ _ hW (lv_sub hl [1, 2, 3, 4, 0] rfl) hf kE
  unfold X11_reads at hf
  refine lv_aload_n hx hb dX11_reads_0 rfl (lv_at hl 0 rfl) ?_
  replace hf := bd_so hf
  obtain ⟨⟨x2, S3⟩, h1, hf⟩ := hf
  dsimp only at hf
  refine g_callVi (ci := 11) (As := []) (rest := []) C g_us hW hl.1 (c_X11_next l E S  _ _ h1) rfl rfl rfl (in_sid _ rfl) k_RX11_158 rfl ⟨rfl, rfl⟩ ⟨Nat.le_of_ble_eq_true rfl, Nat.le_of_ble_eq_true rfl⟩ ⟨Nat.zero_le _, Nat.zero_le _⟩ _ rfl (Nat.le_of_ble_eq_true rfl) dX11_reads_1 (fun H locs hW => ?_)
  refine lv_istore_n (lv' := [(3, .int x2), (0, .ref (E.ad 60)), (1, .int a1), (2, .int a2)]) hx hb dX11_reads_4 rfl hl (by decide) rfl (fun ls hl => ?_)
  refine lv_aload_n hx hb dX11_reads_5 rfl (lv_at hl 1 rfl) ?_
  refine g_get (ci := 11) (k := 6) (val := .int (rI S3 60 6)) C g_us hW rfl rfl rfl (in_sid _ rfl) (by decide) f_RX11_155 rfl dX11_reads_6 ?_
  refine lv_istore (lv' := [(4, .int (rI S3 60 6)), (3, .int x2), (0, .ref (E.ad 60)), (1, .int a1), (2, .int a2)]) hx hb dX11_reads_9 hl (by decide) rfl (fun ls hl => ?_)
  refine lv_iload_n hx hb dX11_reads_11 rfl (lv_at hl 1 rfl) ?_
  refine lv_i2l (v := (x2 : Int32).toInt64) hx hb dX11_reads_12 rfl ?_
  refine lv_ldc2 hx hb hown (hts _ (g_us _ q_RX11_161)) dX11_reads_13 ?_
  refine lv_ldc2 hx hb hown (hts _ (g_us _ q_RX11_163)) dX11_reads_16 ?_
  replace hf := bd_so hf
  obtain ⟨x5, h4, hf⟩ := hf
  refine g_callSi (As := [.long ((x2 : Int32).toInt64), .long 97, .long 103]) (rest := []) C g_us hW hl.1 (c_X11_in l E S3 ((x2 : Int32).toInt64) 97 103 _ h4) k_RX11_72 rfl ⟨rfl, rfl⟩ ⟨Nat.le_of_ble_eq_true rfl, Nat.le_of_ble_eq_true rfl⟩ ⟨Nat.zero_le _, Nat.zero_le _⟩ _ rfl (Nat.le_of_ble_eq_true rfl) dX11_reads_19 (fun H locs hW => ?_)
  replace hf := bd_so hf
  obtain ⟨x7, h8, hf⟩ := hf
  have J9 : ∀ (H : Heap) (locs : List Loc) (ls : Array Slot), Ww E S3 s H locs → lv_has ls 8 [(0, .ref (E.ad 60)), (1, .int a1), (2, .int a2), (3, .int x2), (4, .int (rI S3 60 6))] → W p l e rm_X11_reads s m args below meth c H locs 0 0 Q (F0 m 33 ls [.int x7]) := by
    intro H locs ls hW hl
    refine lv_istore (lv' := [(5, .int x7), (0, .ref (E.ad 60)), (1, .int a1), (2, .int a2), (3, .int x2), (4, .int (rI S3 60 6))]) hx hb dX11_reads_33 hl (by decide) rfl (fun ls hl => ?_)
    refine lv_iload hx hb dX11_reads_35 (lv_at hl 0 rfl) ?_
    refine lv_if_ne (tgt := 46) hx hb dX11_reads_37 (by decide) (fun c10 => ?_) (fun c10 => ?_)
    · replace hf := iff_ hf c10
      refine lv_iload_n hx hb dX11_reads_46 rfl (lv_at hl 3 rfl) ?_
      refine lv_bipush (v := 40) hx hb dX11_reads_47 (by decide) ?_
      refine lv_icmp_ne (tgt := 54) hx hb dX11_reads_49 (by decide) (fun c11 => ?_) (fun c11 => ?_)
      · replace hf := iff_ hf c11
        refine lv_aload_n hx hb dX11_reads_54 rfl (lv_at hl 1 rfl) ?_
        refine lv_dup hx hb dX11_reads_55 rfl ?_
        refine g_get (ci := 11) (k := 6) (val := .int (rI S3 60 6)) C g_us hW rfl rfl rfl (in_sid _ rfl) (by decide) f_RX11_155 rfl dX11_reads_56 ?_
        refine lv_iconst (v := 1) hx hb dX11_reads_59 (by decide) ?_
        refine lv_iadd hx hb dX11_reads_60 ?_
        replace hf := bd_so hf
        obtain ⟨S12, h13, hf⟩ := hf
        refine g_putI (ci := 11) (k := 6) C g_us hW rfl rfl rfl (in_sid _ rfl) (by decide) f_RX11_155 rfl rfl rfl h13 dX11_reads_61 (fun H locs hW => ?_)
        refine lv_iconst (v := 1) hx hb dX11_reads_64 (by decide) ?_
        refine lv_istore (lv' := [(6, .int 1), (5, .int x7), (0, .ref (E.ad 60)), (1, .int a1), (2, .int a2), (3, .int x2), (4, .int (rI S3 60 6))]) hx hb dX11_reads_65 hl (by decide) rfl (fun ls hl => ?_)
        refine lv_aload_n hx hb dX11_reads_67 rfl (lv_at hl 2 rfl) ?_
        replace hf := bd_so hf
        obtain ⟨⟨x15, S16⟩, h14, hf⟩ := hf
        dsimp only at hf
        refine g_callVi (ci := 11) (As := []) (rest := []) C g_us hW hl.1 (c_X11_next l E S12  _ _ h14) rfl rfl rfl (in_sid _ rfl) k_RX11_158 rfl ⟨rfl, rfl⟩ ⟨Nat.le_of_ble_eq_true rfl, Nat.le_of_ble_eq_true rfl⟩ ⟨Nat.zero_le _, Nat.zero_le _⟩ _ rfl (Nat.le_of_ble_eq_true rfl) dX11_reads_68 (fun H locs hW => ?_)
        refine lv_i2l (v := (x15 : Int32).toInt64) hx hb dX11_reads_71 rfl ?_
        refine lv_ldc2 hx hb hown (hts _ (g_us _ q_RX11_165)) dX11_reads_72 ?_
        refine lv_ldc2 hx hb hown (hts _ (g_us _ q_RX11_167)) dX11_reads_75 ?_
        replace hf := bd_so hf
        obtain ⟨x18, h17, hf⟩ := hf
        refine g_callSi (As := [.long ((x15 : Int32).toInt64), .long 49, .long 57]) (rest := []) C g_us hW hl.1 (c_X11_in l E S16 ((x15 : Int32).toInt64) 49 57 _ h17) k_RX11_72 rfl ⟨rfl, rfl⟩ ⟨Nat.le_of_ble_eq_true rfl, Nat.le_of_ble_eq_true rfl⟩ ⟨Nat.zero_le _, Nat.zero_le _⟩ _ rfl (Nat.le_of_ble_eq_true rfl) dX11_reads_78 (fun H locs hW => ?_)
        replace hf := bd_so hf
        obtain ⟨⟨x20, S21⟩, h22, hf⟩ := hf
        dsimp only at hf
        have J23 : ∀ (H : Heap) (locs : List Loc) (ls : Array Slot), Ww E S21 s H locs → lv_has ls 8 [(0, .ref (E.ad 60)), (1, .int a1), (4, .int (rI S3 60 6)), (5, .int x7), (6, .int x20)] → W p l e rm_X11_reads s m args below meth c H locs 0 0 Q (F0 m 103 ls []) := by
          intro H locs ls hW hl
          refine lv_iload_n hx hb dX11_reads_103 rfl (lv_at hl 1 rfl) ?_
          refine lv_iload hx hb dX11_reads_104 (lv_at hl 4 rfl) ?_
          refine lv_iadd hx hb dX11_reads_106 ?_
          refine lv_bipush (v := 64) hx hb dX11_reads_107 (by decide) ?_
          refine lv_icmp_le (tgt := 120) hx hb dX11_reads_109 (by decide) (fun c24 => ?_) (fun c24 => ?_)
          · replace hf := ift_ hf c24
            refine lv_iconst (v := 0) hx hb dX11_reads_120 (by decide) ?_
            refine lv_istore (lv' := [(7, .int 0), (0, .ref (E.ad 60)), (1, .int a1), (4, .int (rI S3 60 6)), (5, .int x7), (6, .int x20)]) hx hb dX11_reads_121 hl (by decide) rfl (fun ls hl => ?_)
            replace hf := bd_so hf
            obtain ⟨S28, h29, hf⟩ := hf
            have J43 : ∀ (H : Heap) (locs : List Loc) (ls : Array Slot), Ww E S28 s H locs → lv_has ls 8 [(0, .ref (E.ad 60)), (1, .int a1), (6, .int x20)] → W p l e rm_X11_reads s m args below meth c H locs 0 0 Q (F0 m 147 ls []) := by
              intro H locs ls hW hl
              refine lv_aload_n hx hb dX11_reads_147 rfl (lv_at hl 0 rfl) ?_
              replace hf := bd_so hf
              obtain ⟨⟨x31, S32⟩, h30, hf⟩ := hf
              dsimp only at hf
              refine g_callVi (ci := 11) (As := []) (rest := []) C g_us hW hl.1 (c_X11_next l E S28  _ _ h30) rfl rfl rfl (in_sid _ rfl) k_RX11_158 rfl ⟨rfl, rfl⟩ ⟨Nat.le_of_ble_eq_true rfl, Nat.le_of_ble_eq_true rfl⟩ ⟨Nat.zero_le _, Nat.zero_le _⟩ _ rfl (Nat.le_of_ble_eq_true rfl) dX11_reads_148 (fun H locs hW => ?_)
              refine lv_bipush (v := 46) hx hb dX11_reads_151 (by decide) ?_
              replace hf := bd_so hf
              obtain ⟨S34, h35, hf⟩ := hf
              have J36 : ∀ (H : Heap) (locs : List Loc) (ls : Array Slot), Ww E S34 s H locs → lv_has ls 8 [(1, .int a1), (6, .int x20)] → W p l e rm_X11_reads s m args below meth c H locs 0 0 Q (F0 m 182 ls []) := by
                intro H locs ls hW hl
                refine lv_iload_n hx hb dX11_reads_182 rfl (lv_at hl 0 rfl) ?_
                refine lv_iload hx hb dX11_reads_183 (lv_at hl 1 rfl) ?_
                refine lv_iadd hx hb dX11_reads_185 ?_
                obtain ⟨rfl, rfl⟩ := so2 hf
                exact kR _ _ _ _ hW dX11_reads_186
              clear hf
              have hf := h35
              clear h35
              refine lv_icmp_ne (tgt := 182) hx hb dX11_reads_153 (by decide) (fun c33 => ?_) (fun c33 => ?_)
              · replace hf := iff_ hf c33
                obtain rfl := so1 hf
                exact J36 _ _ _ hW (lv_sub hl [1, 2] rfl)
              · replace hf := ift_ hf c33
                refine lv_aload_n hx hb dX11_reads_156 rfl (lv_at hl 0 rfl) ?_
                refine g_get (ci := 11) (k := 7) (val := .ref (E.ad 66)) C g_us hW rfl rfl rfl (in_sid _ rfl) (by decide) f_RX11_26 rfl dX11_reads_157 ?_
                refine lv_iload_n hx hb dX11_reads_160 rfl (lv_at hl 1 rfl) ?_
                refine lv_iload hx hb dX11_reads_161 (lv_at hl 2 rfl) ?_
                refine lv_iadd hx hb dX11_reads_163 ?_
                refine lv_iconst (v := 1) hx hb dX11_reads_164 (by decide) ?_
                refine lv_isub hx hb dX11_reads_165 ?_
                refine lv_dup2_11 hx hb dX11_reads_166 rfl rfl ?_
                replace hf := bd_so hf
                obtain ⟨x37, h38, hf⟩ := hf
                refine g_iald C hW h38 dX11_reads_167 ?_
                refine lv_bipush (v := 10) hx hb dX11_reads_168 (by decide) ?_
                refine lv_iadd hx hb dX11_reads_170 ?_
                replace hf := bd_so hf
                obtain ⟨S39, h40, hf⟩ := hf
                refine g_iast C hW h40 dX11_reads_171 (fun H locs hW => ?_)
                refine lv_aload_n hx hb dX11_reads_172 rfl (lv_at hl 0 rfl) ?_
                refine lv_dup hx hb dX11_reads_173 rfl ?_
                refine g_get (ci := 11) (k := 6) (val := .int (rI S39 60 6)) C g_us hW rfl rfl rfl (in_sid _ rfl) (by decide) f_RX11_155 rfl dX11_reads_174 ?_
                refine lv_iconst (v := 1) hx hb dX11_reads_177 (by decide) ?_
                refine lv_iadd hx hb dX11_reads_178 ?_
                replace hf := bd_so hf
                obtain ⟨S41, h42, hf⟩ := hf
                refine g_putI (ci := 11) (k := 6) C g_us hW rfl rfl rfl (in_sid _ rfl) (by decide) f_RX11_155 rfl rfl rfl h42 dX11_reads_179 (fun H locs hW => ?_)
                obtain rfl := so1 hf
                exact J36 _ _ _ hW (lv_sub hl [1, 2] rfl)
            exact X11_reads_L123_c _ _ _ _ FU _ _ _ _ _ hW (lv_sub hl [1, 2, 4, 5, 0] rfl) h29 (fun _ H locs ls e hW hl => by cases e; exact J43 H locs ls hW hl)
          · replace hf := iff_ hf c24
            refine lv_aload_n hx hb dX11_reads_112 rfl (lv_at hl 0 rfl) ?_
            refine lv_iload hx hb dX11_reads_113 (lv_at hl 2 rfl) ?_
            replace hf := bd_so hf
            obtain ⟨S44, h45, hf⟩ := hf
            refine g_putI (ci := 11) (k := 6) C g_us hW rfl rfl rfl (in_sid _ rfl) (by decide) f_RX11_155 rfl rfl rfl h45 dX11_reads_115 (fun H locs hW => ?_)
            refine lv_iconst (v := (-1)) hx hb dX11_reads_118 (by decide) ?_
            obtain ⟨rfl, rfl⟩ := so2 hf
            exact kR _ _ _ _ hW dX11_reads_119
        clear hf
        have hf := h22
        clear h22
        refine lv_if_eq (tgt := 103) hx hb dX11_reads_81 (by decide) (fun c19 => ?_) (fun c19 => ?_)
        · replace hf := ift_ hf c19
          obtain ⟨rfl, rfl⟩ := so2 hf
          exact J23 _ _ _ hW (lv_sub hl [2, 3, 6, 1, 0] rfl)
        · replace hf := iff_ hf c19
          refine lv_aload_n hx hb dX11_reads_84 rfl (lv_at hl 2 rfl) ?_
          replace hf := bd_so hf
          obtain ⟨⟨x47, S48⟩, h46, hf⟩ := hf
          dsimp only at hf
          refine g_callVi (ci := 11) (As := []) (rest := []) C g_us hW hl.1 (c_X11_next l E S16  _ _ h46) rfl rfl rfl (in_sid _ rfl) k_RX11_158 rfl ⟨rfl, rfl⟩ ⟨Nat.le_of_ble_eq_true rfl, Nat.le_of_ble_eq_true rfl⟩ ⟨Nat.zero_le _, Nat.zero_le _⟩ _ rfl (Nat.le_of_ble_eq_true rfl) dX11_reads_85 (fun H locs hW => ?_)
          refine lv_bipush (v := 48) hx hb dX11_reads_88 (by decide) ?_
          refine lv_isub hx hb dX11_reads_90 ?_
          refine lv_istore (lv' := [(6, .int (x47 - 48)), (5, .int x7), (0, .ref (E.ad 60)), (1, .int a1), (2, .int a2), (3, .int x2), (4, .int (rI S3 60 6))]) hx hb dX11_reads_91 hl (by decide) rfl (fun ls hl => ?_)
          refine lv_aload_n hx hb dX11_reads_93 rfl (lv_at hl 2 rfl) ?_
          refine lv_dup hx hb dX11_reads_94 rfl ?_
          refine g_get (ci := 11) (k := 6) (val := .int (rI S48 60 6)) C g_us hW rfl rfl rfl (in_sid _ rfl) (by decide) f_RX11_155 rfl dX11_reads_95 ?_
          refine lv_iconst (v := 1) hx hb dX11_reads_98 (by decide) ?_
          refine lv_iadd hx hb dX11_reads_99 ?_
          replace hf := bd_so hf
          obtain ⟨S49, h50, hf⟩ := hf
          refine g_putI (ci := 11) (k := 6) C g_us hW rfl rfl rfl (in_sid _ rfl) (by decide) f_RX11_155 rfl rfl rfl h50 dX11_reads_100 (fun H locs hW => ?_)
          obtain ⟨rfl, rfl⟩ := so2 hf
          exact J23 _ _ _ hW (lv_sub hl [2, 3, 6, 1, 0] rfl)
      · replace hf := ift_ hf c11
        refine lv_iconst (v := (-1)) hx hb dX11_reads_52 (by decide) ?_
        obtain ⟨rfl, rfl⟩ := so2 hf
        exact kR _ _ _ _ hW dX11_reads_53
    · replace hf := ift_ hf c10
      refine lv_iload_n hx hb dX11_reads_40 rfl (lv_at hl 4 rfl) ?_
      refine lv_bipush (v := 45) hx hb dX11_reads_41 (by decide) ?_
      refine lv_icmp_ne (tgt := 52) hx hb dX11_reads_43 (by decide) (fun c51 => ?_) (fun c51 => ?_)
      · replace hf := iff_ hf c51
        refine lv_iconst (v := (-1)) hx hb dX11_reads_52 (by decide) ?_
        obtain ⟨rfl, rfl⟩ := so2 hf
        exact kR _ _ _ _ hW dX11_reads_53
      · replace hf := ift_ hf c51
        refine lv_iload_n hx hb dX11_reads_46 rfl (lv_at hl 3 rfl) ?_
        refine lv_bipush (v := 40) hx hb dX11_reads_47 (by decide) ?_
        refine lv_icmp_ne (tgt := 54) hx hb dX11_reads_49 (by decide) (fun c52 => ?_) (fun c52 => ?_)
        · replace hf := iff_ hf c52
          refine lv_aload_n hx hb dX11_reads_54 rfl (lv_at hl 1 rfl) ?_
          refine lv_dup hx hb dX11_reads_55 rfl ?_
          refine g_get (ci := 11) (k := 6) (val := .int (rI S3 60 6)) C g_us hW rfl rfl rfl (in_sid _ rfl) (by decide) f_RX11_155 rfl dX11_reads_56 ?_
          refine lv_iconst (v := 1) hx hb dX11_reads_59 (by decide) ?_
          refine lv_iadd hx hb dX11_reads_60 ?_
          replace hf := bd_so hf
          obtain ⟨S53, h54, hf⟩ := hf
          refine g_putI (ci := 11) (k := 6) C g_us hW rfl rfl rfl (in_sid _ rfl) (by decide) f_RX11_155 rfl rfl rfl h54 dX11_reads_61 (fun H locs hW => ?_)
          refine lv_iconst (v := 1) hx hb dX11_reads_64 (by decide) ?_
          refine lv_istore (lv' := [(6, .int 1), (5, .int x7), (0, .ref (E.ad 60)), (1, .int a1), (2, .int a2), (3, .int x2), (4, .int (rI S3 60 6))]) hx hb dX11_reads_65 hl (by decide) rfl (fun ls hl => ?_)
          refine lv_aload_n hx hb dX11_reads_67 rfl (lv_at hl 2 rfl) ?_
          replace hf := bd_so hf
          obtain ⟨⟨x56, S57⟩, h55, hf⟩ := hf
          dsimp only at hf
          refine g_callVi (ci := 11) (As := []) (rest := []) C g_us hW hl.1 (c_X11_next l E S53  _ _ h55) rfl rfl rfl (in_sid _ rfl) k_RX11_158 rfl ⟨rfl, rfl⟩ ⟨Nat.le_of_ble_eq_true rfl, Nat.le_of_ble_eq_true rfl⟩ ⟨Nat.zero_le _, Nat.zero_le _⟩ _ rfl (Nat.le_of_ble_eq_true rfl) dX11_reads_68 (fun H locs hW => ?_)
          refine lv_i2l (v := (x56 : Int32).toInt64) hx hb dX11_reads_71 rfl ?_
          refine lv_ldc2 hx hb hown (hts _ (g_us _ q_RX11_165)) dX11_reads_72 ?_
          refine lv_ldc2 hx hb hown (hts _ (g_us _ q_RX11_167)) dX11_reads_75 ?_
          replace hf := bd_so hf
          obtain ⟨x59, h58, hf⟩ := hf
          refine g_callSi (As := [.long ((x56 : Int32).toInt64), .long 49, .long 57]) (rest := []) C g_us hW hl.1 (c_X11_in l E S57 ((x56 : Int32).toInt64) 49 57 _ h58) k_RX11_72 rfl ⟨rfl, rfl⟩ ⟨Nat.le_of_ble_eq_true rfl, Nat.le_of_ble_eq_true rfl⟩ ⟨Nat.zero_le _, Nat.zero_le _⟩ _ rfl (Nat.le_of_ble_eq_true rfl) dX11_reads_78 (fun H locs hW => ?_)
          replace hf := bd_so hf
          obtain ⟨⟨x61, S62⟩, h63, hf⟩ := hf
          dsimp only at hf
          have J64 : ∀ (H : Heap) (locs : List Loc) (ls : Array Slot), Ww E S62 s H locs → lv_has ls 8 [(0, .ref (E.ad 60)), (1, .int a1), (4, .int (rI S3 60 6)), (5, .int x7), (6, .int x61)] → W p l e rm_X11_reads s m args below meth c H locs 0 0 Q (F0 m 103 ls []) := by
            intro H locs ls hW hl
            refine lv_iload_n hx hb dX11_reads_103 rfl (lv_at hl 1 rfl) ?_
            refine lv_iload hx hb dX11_reads_104 (lv_at hl 4 rfl) ?_
            refine lv_iadd hx hb dX11_reads_106 ?_
            refine lv_bipush (v := 64) hx hb dX11_reads_107 (by decide) ?_
            refine lv_icmp_le (tgt := 120) hx hb dX11_reads_109 (by decide) (fun c65 => ?_) (fun c65 => ?_)
            · replace hf := ift_ hf c65
              refine lv_iconst (v := 0) hx hb dX11_reads_120 (by decide) ?_
              refine lv_istore (lv' := [(7, .int 0), (0, .ref (E.ad 60)), (1, .int a1), (4, .int (rI S3 60 6)), (5, .int x7), (6, .int x61)]) hx hb dX11_reads_121 hl (by decide) rfl (fun ls hl => ?_)
              replace hf := bd_so hf
              obtain ⟨S66, h67, hf⟩ := hf
              have J81 : ∀ (H : Heap) (locs : List Loc) (ls : Array Slot), Ww E S66 s H locs → lv_has ls 8 [(0, .ref (E.ad 60)), (1, .int a1), (6, .int x61)] → W p l e rm_X11_reads s m args below meth c H locs 0 0 Q (F0 m 147 ls []) := by
                intro H locs ls hW hl
                refine lv_aload_n hx hb dX11_reads_147 rfl (lv_at hl 0 rfl) ?_
                replace hf := bd_so hf
                obtain ⟨⟨x69, S70⟩, h68, hf⟩ := hf
                dsimp only at hf
                refine g_callVi (ci := 11) (As := []) (rest := []) C g_us hW hl.1 (c_X11_next l E S66  _ _ h68) rfl rfl rfl (in_sid _ rfl) k_RX11_158 rfl ⟨rfl, rfl⟩ ⟨Nat.le_of_ble_eq_true rfl, Nat.le_of_ble_eq_true rfl⟩ ⟨Nat.zero_le _, Nat.zero_le _⟩ _ rfl (Nat.le_of_ble_eq_true rfl) dX11_reads_148 (fun H locs hW => ?_)
                refine lv_bipush (v := 46) hx hb dX11_reads_151 (by decide) ?_
                replace hf := bd_so hf
                obtain ⟨S72, h73, hf⟩ := hf
                have J74 : ∀ (H : Heap) (locs : List Loc) (ls : Array Slot), Ww E S72 s H locs → lv_has ls 8 [(1, .int a1), (6, .int x61)] → W p l e rm_X11_reads s m args below meth c H locs 0 0 Q (F0 m 182 ls []) := by
                  intro H locs ls hW hl
                  refine lv_iload_n hx hb dX11_reads_182 rfl (lv_at hl 0 rfl) ?_
                  refine lv_iload hx hb dX11_reads_183 (lv_at hl 1 rfl) ?_
                  refine lv_iadd hx hb dX11_reads_185 ?_
                  obtain ⟨rfl, rfl⟩ := so2 hf
                  exact kR _ _ _ _ hW dX11_reads_186
                clear hf
                have hf := h73
                clear h73
                refine lv_icmp_ne (tgt := 182) hx hb dX11_reads_153 (by decide) (fun c71 => ?_) (fun c71 => ?_)
                · replace hf := iff_ hf c71
                  obtain rfl := so1 hf
                  exact J74 _ _ _ hW (lv_sub hl [1, 2] rfl)
                · replace hf := ift_ hf c71
                  refine lv_aload_n hx hb dX11_reads_156 rfl (lv_at hl 0 rfl) ?_
                  refine g_get (ci := 11) (k := 7) (val := .ref (E.ad 66)) C g_us hW rfl rfl rfl (in_sid _ rfl) (by decide) f_RX11_26 rfl dX11_reads_157 ?_
                  refine lv_iload_n hx hb dX11_reads_160 rfl (lv_at hl 1 rfl) ?_
                  refine lv_iload hx hb dX11_reads_161 (lv_at hl 2 rfl) ?_
                  refine lv_iadd hx hb dX11_reads_163 ?_
                  refine lv_iconst (v := 1) hx hb dX11_reads_164 (by decide) ?_
                  refine lv_isub hx hb dX11_reads_165 ?_
                  refine lv_dup2_11 hx hb dX11_reads_166 rfl rfl ?_
                  replace hf := bd_so hf
                  obtain ⟨x75, h76, hf⟩ := hf
                  refine g_iald C hW h76 dX11_reads_167 ?_
                  refine lv_bipush (v := 10) hx hb dX11_reads_168 (by decide) ?_
                  refine lv_iadd hx hb dX11_reads_170 ?_
                  replace hf := bd_so hf
                  obtain ⟨S77, h78, hf⟩ := hf
                  refine g_iast C hW h78 dX11_reads_171 (fun H locs hW => ?_)
                  refine lv_aload_n hx hb dX11_reads_172 rfl (lv_at hl 0 rfl) ?_
                  refine lv_dup hx hb dX11_reads_173 rfl ?_
                  refine g_get (ci := 11) (k := 6) (val := .int (rI S77 60 6)) C g_us hW rfl rfl rfl (in_sid _ rfl) (by decide) f_RX11_155 rfl dX11_reads_174 ?_
                  refine lv_iconst (v := 1) hx hb dX11_reads_177 (by decide) ?_
                  refine lv_iadd hx hb dX11_reads_178 ?_
                  replace hf := bd_so hf
                  obtain ⟨S79, h80, hf⟩ := hf
                  refine g_putI (ci := 11) (k := 6) C g_us hW rfl rfl rfl (in_sid _ rfl) (by decide) f_RX11_155 rfl rfl rfl h80 dX11_reads_179 (fun H locs hW => ?_)
                  obtain rfl := so1 hf
                  exact J74 _ _ _ hW (lv_sub hl [1, 2] rfl)
              exact X11_reads_L123_c _ _ _ _ FU _ _ _ _ _ hW (lv_sub hl [1, 2, 4, 5, 0] rfl) h67 (fun _ H locs ls e hW hl => by cases e; exact J81 H locs ls hW hl)
            · replace hf := iff_ hf c65
              refine lv_aload_n hx hb dX11_reads_112 rfl (lv_at hl 0 rfl) ?_
              refine lv_iload hx hb dX11_reads_113 (lv_at hl 2 rfl) ?_
              replace hf := bd_so hf
              obtain ⟨S82, h83, hf⟩ := hf
              refine g_putI (ci := 11) (k := 6) C g_us hW rfl rfl rfl (in_sid _ rfl) (by decide) f_RX11_155 rfl rfl rfl h83 dX11_reads_115 (fun H locs hW => ?_)
              refine lv_iconst (v := (-1)) hx hb dX11_reads_118 (by decide) ?_
              obtain ⟨rfl, rfl⟩ := so2 hf
              exact kR _ _ _ _ hW dX11_reads_119
          clear hf
          have hf := h63
          clear h63
          refine lv_if_eq (tgt := 103) hx hb dX11_reads_81 (by decide) (fun c60 => ?_) (fun c60 => ?_)
          · replace hf := ift_ hf c60
            obtain ⟨rfl, rfl⟩ := so2 hf
            exact J64 _ _ _ hW (lv_sub hl [2, 3, 6, 1, 0] rfl)
          · replace hf := iff_ hf c60
            refine lv_aload_n hx hb dX11_reads_84 rfl (lv_at hl 2 rfl) ?_
            replace hf := bd_so hf
            obtain ⟨⟨x85, S86⟩, h84, hf⟩ := hf
            dsimp only at hf
            refine g_callVi (ci := 11) (As := []) (rest := []) C g_us hW hl.1 (c_X11_next l E S57  _ _ h84) rfl rfl rfl (in_sid _ rfl) k_RX11_158 rfl ⟨rfl, rfl⟩ ⟨Nat.le_of_ble_eq_true rfl, Nat.le_of_ble_eq_true rfl⟩ ⟨Nat.zero_le _, Nat.zero_le _⟩ _ rfl (Nat.le_of_ble_eq_true rfl) dX11_reads_85 (fun H locs hW => ?_)
            refine lv_bipush (v := 48) hx hb dX11_reads_88 (by decide) ?_
            refine lv_isub hx hb dX11_reads_90 ?_
            refine lv_istore (lv' := [(6, .int (x85 - 48)), (5, .int x7), (0, .ref (E.ad 60)), (1, .int a1), (2, .int a2), (3, .int x2), (4, .int (rI S3 60 6))]) hx hb dX11_reads_91 hl (by decide) rfl (fun ls hl => ?_)
            refine lv_aload_n hx hb dX11_reads_93 rfl (lv_at hl 2 rfl) ?_
            refine lv_dup hx hb dX11_reads_94 rfl ?_
            refine g_get (ci := 11) (k := 6) (val := .int (rI S86 60 6)) C g_us hW rfl rfl rfl (in_sid _ rfl) (by decide) f_RX11_155 rfl dX11_reads_95 ?_
            refine lv_iconst (v := 1) hx hb dX11_reads_98 (by decide) ?_
            refine lv_iadd hx hb dX11_reads_99 ?_
            replace hf := bd_so hf
            obtain ⟨S87, h88, hf⟩ := hf
            refine g_putI (ci := 11) (k := 6) C g_us hW rfl rfl rfl (in_sid _ rfl) (by decide) f_RX11_155 rfl rfl rfl h88 dX11_reads_100 (fun H locs hW => ?_)
            obtain ⟨rfl, rfl⟩ := so2 hf
            exact J64 _ _ _ hW (lv_sub hl [2, 3, 6, 1, 0] rfl)
        · replace hf := ift_ hf c52
          refine lv_iconst (v := (-1)) hx hb dX11_reads_52 (by decide) ?_
          obtain ⟨rfl, rfl⟩ := so2 hf
          exact kR _ _ _ _ hW dX11_reads_53
  clear hf
  have hf := h8
  clear h8
  refine lv_if_eq (tgt := 32) hx hb dX11_reads_22 (by decide) (fun c6 => ?_) (fun c6 => ?_)
  · replace hf := ift_ hf c6
    refine lv_iconst (v := 0) hx hb dX11_reads_32 (by decide) ?_
    obtain rfl := so1 hf
    exact J9 _ _ _ hW (lv_sub hl [2, 3, 4, 1, 0] rfl)
  · replace hf := iff_ hf c6
    refine lv_iload_n hx hb dX11_reads_25 rfl (lv_at hl 1 rfl) ?_
    refine lv_bipush (v := 96) hx hb dX11_reads_26 (by decide) ?_
    refine lv_isub hx hb dX11_reads_28 ?_
    refine lv_goto (tgt := 33) hx hb dX11_reads_29 (by decide) ?_
    obtain rfl := so1 hf
    exact J9 _ _ _ hW (lv_sub hl [2, 3, 4, 1, 0] rfl)

abbrev rm_X11_piece : Room := { frames := 3, cells := 0, slots := 0, locals := 112 }
set_option maxHeartbeats 4000000 in
set_option maxRecDepth 100000 in
theorem c_X11_piece (l : Launch) (E : En) (S : St) (r : Int32) (S1 : St) (hf : X11_piece S  = some (r, S1)) : Mi l E yX11_piece cX11_piece 5 (some .int) rm_X11_piece [.ref (E.ad 60)] S r S1 := by
  refine g_startI (cc := cX11_piece) (n := 5) (by decide) (Nat.le_of_ble_eq_true rfl) ?_
  intro p e s m args below meth c Q H locs C kR hW ls hl
  obtain ⟨⟨hx, hb, hml, hown, hts⟩, hK, hT⟩ := id C
  have hl : lv_has ls 5 [(0, .ref (E.ad 60))] := hl
  have X11_piece_L11_c : ∀ (res : Int32 × St) (n : Nat) (v1 : Int32) (v2 : Int32) (v3 : Int32) (S : St) (H : Heap) (locs : List Loc) (ls : Array Slot), Ww E S s H locs → lv_has ls 5 [(0, .ref (E.ad 60)), (1, .int v1), (2, .int v2), (3, .int v3)] → X11_piece_L11  n v1 v2 v3 S = some res → (∀ (w1 : Int32) (T : St) (H : Heap) (locs : List Loc) (ls : Array Slot), some (w1, T) = some res → Ww E T s H locs → lv_has ls 5 [(0, .ref (E.ad 60)), (1, .int w1)] → W p l e rm_X11_piece s m args below meth c H locs 0 0 Q (F0 m 45 ls [])) → W p l e rm_X11_piece s m args below meth c H locs 0 0 Q (F0 m 11 ls []) := by
    intro  res n
    induction n with
    | zero =>
      intro v1 v2 v3 S H locs ls hW hl hf
      cases hf
    | succ n ih =>
      intro v1 v2 v3 S H locs ls hW hl hf kE
      unfold X11_piece_L11 at hf
      refine lv_iload_n hx hb dX11_piece_11 rfl (lv_at hl 3 rfl) ?_
      refine lv_if_eq (tgt := 45) hx hb dX11_piece_12 (by decide) (fun c3 => ?_) (fun c3 => ?_)
      · replace hf := ift_ hf c3
        exact kE _ _ _ _ _ hf hW (lv_sub hl [0, 1] rfl)
      · replace hf := iff_ hf c3
        refine lv_aload_n hx hb dX11_piece_15 rfl (lv_at hl 0 rfl) ?_
        refine lv_iload_n hx hb dX11_piece_16 rfl (lv_at hl 1 rfl) ?_
        refine lv_iload_n hx hb dX11_piece_17 rfl (lv_at hl 2 rfl) ?_
        replace hf := bd_so hf
        obtain ⟨⟨x5, S6⟩, h4, hf⟩ := hf
        dsimp only at hf
        refine g_callVi (ci := 11) (As := [.int v1, .int v2]) (rest := []) C g_us hW hl.1 (c_X11_reads l E S v1 v2 _ _ h4) rfl rfl rfl (in_sid _ rfl) k_RX11_169 rfl ⟨rfl, rfl⟩ ⟨Nat.le_of_ble_eq_true rfl, Nat.le_of_ble_eq_true rfl⟩ ⟨Nat.zero_le _, Nat.zero_le _⟩ _ rfl (Nat.le_of_ble_eq_true rfl) dX11_piece_18 (fun H locs hW => ?_)
        refine lv_istore_n (lv' := [(1, .int x5), (0, .ref (E.ad 60)), (2, .int v2), (3, .int v3)]) hx hb dX11_piece_21 rfl hl (by decide) rfl (fun ls hl => ?_)
        refine lv_iinc (v := (v2 + 1)) (lv' := [(2, .int (v2 + 1)), (1, .int x5), (0, .ref (E.ad 60)), (3, .int v3)]) hx hb dX11_piece_22 hl (k := 2) rfl rfl (by decide) rfl (fun ls hl => ?_)
        refine lv_iload_n hx hb dX11_piece_25 rfl (lv_at hl 1 rfl) ?_
        replace hf := bd_so hf
        obtain ⟨⟨x8, S9⟩, h10, hf⟩ := hf
        dsimp only at hf
        have J11 : ∀ (H : Heap) (locs : List Loc) (ls : Array Slot), Ww E S9 s H locs → lv_has ls 5 [(0, .ref (E.ad 60)), (1, .int x5), (2, .int (v2 + 1))] → W p l e rm_X11_piece s m args below meth c H locs 0 0 Q (F0 m 41 ls [.int x8]) := by
          intro H locs ls hW hl
          refine lv_istore_n (lv' := [(3, .int x8), (0, .ref (E.ad 60)), (1, .int x5), (2, .int (v2 + 1))]) hx hb dX11_piece_41 rfl hl (by decide) rfl (fun ls hl => ?_)
          refine lv_goto (tgt := 11) hx hb dX11_piece_42 (by decide) ?_
          exact ih _ _ _ _ _ _ _ hW (lv_sub hl [1, 2, 3, 0] rfl) hf kE
        clear hf
        have hf := h10
        clear h10
        refine lv_if_lt (tgt := 40) hx hb dX11_piece_26 (by decide) (fun c7 => ?_) (fun c7 => ?_)
        · replace hf := ift_ hf c7
          refine lv_iconst (v := 0) hx hb dX11_piece_40 (by decide) ?_
          obtain ⟨rfl, rfl⟩ := so2 hf
          exact J11 _ _ _ hW (lv_sub hl [2, 1, 0] rfl)
        · replace hf := iff_ hf c7
          refine lv_aload_n hx hb dX11_piece_29 rfl (lv_at hl 2 rfl) ?_
          replace hf := bd_so hf
          obtain ⟨⟨x13, S14⟩, h12, hf⟩ := hf
          dsimp only at hf
          refine g_callVi (ci := 11) (As := []) (rest := []) C g_us hW hl.1 (c_X11_next l E S6  _ _ h12) rfl rfl rfl (in_sid _ rfl) k_RX11_158 rfl ⟨rfl, rfl⟩ ⟨Nat.le_of_ble_eq_true rfl, Nat.le_of_ble_eq_true rfl⟩ ⟨Nat.zero_le _, Nat.zero_le _⟩ _ rfl (Nat.le_of_ble_eq_true rfl) dX11_piece_30 (fun H locs hW => ?_)
          refine lv_if_eq (tgt := 40) hx hb dX11_piece_33 (by decide) (fun c15 => ?_) (fun c15 => ?_)
          · replace hf := ift_ hf c15
            refine lv_iconst (v := 0) hx hb dX11_piece_40 (by decide) ?_
            obtain ⟨rfl, rfl⟩ := so2 hf
            exact J11 _ _ _ hW (lv_sub hl [2, 1, 0] rfl)
          · replace hf := iff_ hf c15
            refine lv_iconst (v := 1) hx hb dX11_piece_36 (by decide) ?_
            refine lv_goto (tgt := 41) hx hb dX11_piece_37 (by decide) ?_
            obtain ⟨rfl, rfl⟩ := so2 hf
            exact J11 _ _ _ hW (lv_sub hl [2, 1, 0] rfl)
  have X11_piece_L65_c : ∀ (v1 : Int32) (res : St) (n : Nat) (v4 : Int32) (S : St) (H : Heap) (locs : List Loc) (ls : Array Slot), Ww E S s H locs → lv_has ls 5 [(0, .ref (E.ad 60)), (1, .int v1), (4, .int v4)] → X11_piece_L65 v1 n v4 S = some res → (∀ (T : St) (H : Heap) (locs : List Loc) (ls : Array Slot), some T = some res → Ww E T s H locs → lv_has ls 5 [(0, .ref (E.ad 60)), (1, .int v1)] → W p l e rm_X11_piece s m args below meth c H locs 0 0 Q (F0 m 95 ls [])) → W p l e rm_X11_piece s m args below meth c H locs 0 0 Q (F0 m 65 ls []) := by
    intro v1 res n
    induction n with
    | zero =>
      intro v4 S H locs ls hW hl hf
      cases hf
    | succ n ih =>
      intro v4 S H locs ls hW hl hf kE
      unfold X11_piece_L65 at hf
      refine lv_iload hx hb dX11_piece_65 (lv_at hl 2 rfl) ?_
      refine lv_iload_n hx hb dX11_piece_67 rfl (lv_at hl 1 rfl) ?_
      refine lv_icmp_ge (tgt := 95) hx hb dX11_piece_68 (by decide) (fun c22 => ?_) (fun c22 => ?_)
      · replace hf := ift_ hf c22
        exact kE _ _ _ _ hf hW (lv_sub hl [0, 1] rfl)
      · replace hf := iff_ hf c22
        refine lv_aload_n hx hb dX11_piece_71 rfl (lv_at hl 0 rfl) ?_
        refine g_get (ci := 11) (k := 0) (val := .ref (E.ad 61)) C g_us hW rfl rfl rfl (in_sid _ rfl) (by decide) f_RX11_7 rfl dX11_piece_72 ?_
        refine lv_sipush (v := 136) hx hb dX11_piece_75 (by decide) ?_
        refine lv_iload hx hb dX11_piece_78 (lv_at hl 2 rfl) ?_
        refine lv_iadd hx hb dX11_piece_80 ?_
        refine lv_aload_n hx hb dX11_piece_81 rfl (lv_at hl 0 rfl) ?_
        refine g_get (ci := 11) (k := 7) (val := .ref (E.ad 66)) C g_us hW rfl rfl rfl (in_sid _ rfl) (by decide) f_RX11_26 rfl dX11_piece_82 ?_
        refine lv_iload hx hb dX11_piece_85 (lv_at hl 2 rfl) ?_
        replace hf := bd_so hf
        obtain ⟨x23, h24, hf⟩ := hf
        refine g_iald C hW h24 dX11_piece_87 ?_
        replace hf := bd_so hf
        obtain ⟨S25, h26, hf⟩ := hf
        refine g_iast C hW h26 dX11_piece_88 (fun H locs hW => ?_)
        refine lv_iinc (v := (v4 + 1)) (lv' := [(4, .int (v4 + 1)), (0, .ref (E.ad 60)), (1, .int v1)]) hx hb dX11_piece_89 hl (k := 2) rfl rfl (by decide) rfl (fun ls hl => ?_)
        refine lv_goto (tgt := 65) hx hb dX11_piece_92 (by decide) ?_
        exact ih _ _ _ _ _ hW (lv_sub hl [1, 2, 0] rfl) hf kE
  unfold X11_piece at hf
  refine lv_aload_n hx hb dX11_piece_0 rfl (lv_at hl 0 rfl) ?_
  refine lv_iconst (v := 0) hx hb dX11_piece_1 (by decide) ?_
  replace hf := bd_so hf
  obtain ⟨S1, h2, hf⟩ := hf
  refine g_putI (ci := 11) (k := 6) C g_us hW rfl rfl rfl (in_sid _ rfl) (by decide) f_RX11_155 rfl rfl rfl h2 dX11_piece_2 (fun H locs hW => ?_)
  refine lv_iconst (v := 0) hx hb dX11_piece_5 (by decide) ?_
  refine lv_istore_n (lv' := [(1, .int 0), (0, .ref (E.ad 60))]) hx hb dX11_piece_6 rfl hl (by decide) rfl (fun ls hl => ?_)
  refine lv_iconst (v := 0) hx hb dX11_piece_7 (by decide) ?_
  refine lv_istore_n (lv' := [(2, .int 0), (1, .int 0), (0, .ref (E.ad 60))]) hx hb dX11_piece_8 rfl hl (by decide) rfl (fun ls hl => ?_)
  refine lv_iconst (v := 1) hx hb dX11_piece_9 (by decide) ?_
  refine lv_istore_n (lv' := [(3, .int 1), (2, .int 0), (1, .int 0), (0, .ref (E.ad 60))]) hx hb dX11_piece_10 rfl hl (by decide) rfl (fun ls hl => ?_)
  replace hf := bd_so hf
  obtain ⟨⟨x16, S17⟩, h18, hf⟩ := hf
  dsimp only at hf
  have J32 : ∀ (H : Heap) (locs : List Loc) (ls : Array Slot), Ww E S17 s H locs → lv_has ls 5 [(0, .ref (E.ad 60)), (1, .int x16)] → W p l e rm_X11_piece s m args below meth c H locs 0 0 Q (F0 m 45 ls []) := by
    intro H locs ls hW hl
    refine lv_aload_n hx hb dX11_piece_45 rfl (lv_at hl 0 rfl) ?_
    refine lv_iconst (v := 0) hx hb dX11_piece_46 (by decide) ?_
    replace hf := bd_so hf
    obtain ⟨S19, h20, hf⟩ := hf
    refine g_putI (ci := 11) (k := 5) C g_us hW rfl rfl rfl (in_sid _ rfl) (by decide) f_RX11_151 rfl rfl rfl h20 dX11_piece_47 (fun H locs hW => ?_)
    refine lv_iload_n hx hb dX11_piece_50 rfl (lv_at hl 1 rfl) ?_
    refine lv_if_ge (tgt := 62) hx hb dX11_piece_51 (by decide) (fun c21 => ?_) (fun c21 => ?_)
    · replace hf := ift_ hf c21
      refine lv_iconst (v := 0) hx hb dX11_piece_62 (by decide) ?_
      refine lv_istore (lv' := [(4, .int 0), (0, .ref (E.ad 60)), (1, .int x16)]) hx hb dX11_piece_63 hl (by decide) rfl (fun ls hl => ?_)
      replace hf := bd_so hf
      obtain ⟨S27, h28, hf⟩ := hf
      have J31 : ∀ (H : Heap) (locs : List Loc) (ls : Array Slot), Ww E S27 s H locs → lv_has ls 5 [(0, .ref (E.ad 60)), (1, .int x16)] → W p l e rm_X11_piece s m args below meth c H locs 0 0 Q (F0 m 95 ls []) := by
        intro H locs ls hW hl
        refine lv_aload_n hx hb dX11_piece_95 rfl (lv_at hl 0 rfl) ?_
        refine g_get (ci := 11) (k := 0) (val := .ref (E.ad 61)) C g_us hW rfl rfl rfl (in_sid _ rfl) (by decide) f_RX11_7 rfl dX11_piece_96 ?_
        refine lv_sipush (v := 130) hx hb dX11_piece_99 (by decide) ?_
        refine lv_iload_n hx hb dX11_piece_102 rfl (lv_at hl 1 rfl) ?_
        replace hf := bd_so hf
        obtain ⟨S29, h30, hf⟩ := hf
        refine g_iast C hW h30 dX11_piece_103 (fun H locs hW => ?_)
        refine lv_iload_n hx hb dX11_piece_104 rfl (lv_at hl 1 rfl) ?_
        obtain ⟨rfl, rfl⟩ := so2 hf
        exact kR _ _ _ _ hW dX11_piece_105
      exact X11_piece_L65_c _ _ FU _ _ _ _ _ hW (lv_sub hl [1, 2, 0] rfl) h28 (fun _ H locs ls e hW hl => by cases e; exact J31 H locs ls hW hl)
    · replace hf := iff_ hf c21
      refine lv_bipush (v := (-20)) hx hb dX11_piece_54 (by decide) ?_
      refine lv_aload_n hx hb dX11_piece_56 rfl (lv_at hl 0 rfl) ?_
      refine g_get (ci := 11) (k := 6) (val := .int (rI S19 60 6)) C g_us hW rfl rfl rfl (in_sid _ rfl) (by decide) f_RX11_155 rfl dX11_piece_57 ?_
      refine lv_isub hx hb dX11_piece_60 ?_
      obtain ⟨rfl, rfl⟩ := so2 hf
      exact kR _ _ _ _ hW dX11_piece_61
  exact X11_piece_L11_c _ FU _ _ _ _ _ _ _ hW (lv_sub hl [3, 2, 1, 0] rfl) h18 (fun _ _ H locs ls e hW hl => by cases e; exact J32 H locs ls hW hl)

abbrev rm_X11_sound : Room := { frames := 2, cells := 0, slots := 0, locals := 85 }
set_option maxHeartbeats 4000000 in
set_option maxRecDepth 100000 in
theorem c_X11_sound (l : Launch) (E : En) (S : St) (a1 : Int32) (r : Int32) (hf : X11_sound S a1 = some r) : Mi l E yX11_sound cX11_sound 2 (some .int) rm_X11_sound [.ref (E.ad 60), .int a1] S r S := by
  refine g_startI (cc := cX11_sound) (n := 2) (by decide) (Nat.le_of_ble_eq_true rfl) ?_
  intro p e s m args below meth c Q H locs C kR hW ls hl
  obtain ⟨⟨hx, hb, hml, hown, hts⟩, hK, hT⟩ := id C
  have hl : lv_has ls 2 [(0, .ref (E.ad 60)), (1, .int a1)] := hl
  unfold X11_sound at hf
  refine lv_iload_n hx hb dX11_sound_0 rfl (lv_at hl 1 rfl) ?_
  refine lv_i2l (v := (a1 : Int32).toInt64) hx hb dX11_sound_1 rfl ?_
  refine lv_lconst (v := 0) hx hb dX11_sound_2 (by decide) ?_
  refine lv_aload_n hx hb dX11_sound_3 rfl (lv_at hl 0 rfl) ?_
  refine g_get (ci := 11) (k := 0) (val := .ref (E.ad 61)) C g_us hW rfl rfl rfl (in_sid _ rfl) (by decide) f_RX11_7 rfl dX11_sound_4 ?_
  refine lv_sipush (v := 130) hx hb dX11_sound_7 (by decide) ?_
  replace hf := bd_so hf
  obtain ⟨x1, h2, hf⟩ := hf
  refine g_iald C hW h2 dX11_sound_10 ?_
  refine lv_iconst (v := 1) hx hb dX11_sound_11 (by decide) ?_
  refine lv_isub hx hb dX11_sound_12 ?_
  refine lv_i2l (v := ((x1 - 1) : Int32).toInt64) hx hb dX11_sound_13 rfl ?_
  replace hf := bd_so hf
  obtain ⟨x4, h3, hf⟩ := hf
  refine g_callSi (As := [.long ((a1 : Int32).toInt64), .long 0, .long (((x1 - 1) : Int32).toInt64)]) (rest := []) C g_us hW hl.1 (c_X11_in l E S ((a1 : Int32).toInt64) 0 (((x1 - 1) : Int32).toInt64) _ h3) k_RX11_72 rfl ⟨rfl, rfl⟩ ⟨Nat.le_of_ble_eq_true rfl, Nat.le_of_ble_eq_true rfl⟩ ⟨Nat.zero_le _, Nat.zero_le _⟩ _ rfl (Nat.le_of_ble_eq_true rfl) dX11_sound_14 (fun H locs hW => ?_)
  refine lv_if_eq (tgt := 33) hx hb dX11_sound_17 (by decide) (fun c5 => ?_) (fun c5 => ?_)
  · replace hf := ift_ hf c5
    refine lv_iconst (v := (-1)) hx hb dX11_sound_33 (by decide) ?_
    obtain rfl := so1 hf
    exact kR _ _ _ _ hW dX11_sound_34
  · replace hf := iff_ hf c5
    refine lv_aload_n hx hb dX11_sound_20 rfl (lv_at hl 0 rfl) ?_
    refine g_get (ci := 11) (k := 0) (val := .ref (E.ad 61)) C g_us hW rfl rfl rfl (in_sid _ rfl) (by decide) f_RX11_7 rfl dX11_sound_21 ?_
    refine lv_sipush (v := 136) hx hb dX11_sound_24 (by decide) ?_
    refine lv_iload_n hx hb dX11_sound_27 rfl (lv_at hl 1 rfl) ?_
    refine lv_iadd hx hb dX11_sound_28 ?_
    replace hf := bd_so hf
    obtain ⟨x6, h7, hf⟩ := hf
    refine g_iald C hW h7 dX11_sound_29 ?_
    refine lv_goto (tgt := 34) hx hb dX11_sound_30 (by decide) ?_
    obtain rfl := so1 hf
    exact kR _ _ _ _ hW dX11_sound_34

abbrev rm_X11_fit : Room := { frames := 2, cells := 0, slots := 0, locals := 85 }
set_option maxHeartbeats 4000000 in
set_option maxRecDepth 100000 in
theorem c_X11_fit (l : Launch) (E : En) (S : St) (a1 : Int32) (r : Int32) (S1 : St) (hf : X11_fit S a1 = some (r, S1)) : Mi l E yX11_fit cX11_fit 3 (some .int) rm_X11_fit [.ref (E.ad 60), .int a1] S r S1 := by
  refine g_startI (cc := cX11_fit) (n := 3) (by decide) (Nat.le_of_ble_eq_true rfl) ?_
  intro p e s m args below meth c Q H locs C kR hW ls hl
  obtain ⟨⟨hx, hb, hml, hown, hts⟩, hK, hT⟩ := id C
  have hl : lv_has ls 3 [(0, .ref (E.ad 60)), (1, .int a1)] := hl
  unfold X11_fit at hf
  refine lv_iload_n hx hb dX11_fit_0 rfl (lv_at hl 1 rfl) ?_
  refine lv_i2l (v := (a1 : Int32).toInt64) hx hb dX11_fit_1 rfl ?_
  refine lv_lconst (v := 0) hx hb dX11_fit_2 (by decide) ?_
  refine lv_ldc2 hx hb hown (hts _ (g_us _ q_RX11_172)) dX11_fit_3 ?_
  replace hf := bd_so hf
  obtain ⟨x2, h1, hf⟩ := hf
  refine g_callSi (As := [.long ((a1 : Int32).toInt64), .long 0, .long 127]) (rest := []) C g_us hW hl.1 (c_X11_in l E S ((a1 : Int32).toInt64) 0 127 _ h1) k_RX11_72 rfl ⟨rfl, rfl⟩ ⟨Nat.le_of_ble_eq_true rfl, Nat.le_of_ble_eq_true rfl⟩ ⟨Nat.zero_le _, Nat.zero_le _⟩ _ rfl (Nat.le_of_ble_eq_true rfl) dX11_fit_6 (fun H locs hW => ?_)
  refine lv_if_ne (tgt := 14) hx hb dX11_fit_9 (by decide) (fun c3 => ?_) (fun c3 => ?_)
  · replace hf := iff_ hf c3
    refine lv_aload_n hx hb dX11_fit_14 rfl (lv_at hl 0 rfl) ?_
    refine g_get (ci := 11) (k := 0) (val := .ref (E.ad 61)) C g_us hW rfl rfl rfl (in_sid _ rfl) (by decide) f_RX11_7 rfl dX11_fit_15 ?_
    refine lv_sipush (v := 129) hx hb dX11_fit_18 (by decide) ?_
    replace hf := bd_so hf
    obtain ⟨x4, h5, hf⟩ := hf
    refine g_iald C hW h5 dX11_fit_21 ?_
    refine lv_istore_n (lv' := [(2, .int x4), (0, .ref (E.ad 60)), (1, .int a1)]) hx hb dX11_fit_22 rfl hl (by decide) rfl (fun ls hl => ?_)
    refine lv_aload_n hx hb dX11_fit_23 rfl (lv_at hl 1 rfl) ?_
    refine g_get (ci := 11) (k := 0) (val := .ref (E.ad 61)) C g_us hW rfl rfl rfl (in_sid _ rfl) (by decide) f_RX11_7 rfl dX11_fit_24 ?_
    refine lv_sipush (v := 129) hx hb dX11_fit_27 (by decide) ?_
    refine lv_iload_n hx hb dX11_fit_30 rfl (lv_at hl 2 rfl) ?_
    replace hf := bd_so hf
    obtain ⟨S6, h7, hf⟩ := hf
    refine g_iast C hW h7 dX11_fit_31 (fun H locs hW => ?_)
    refine lv_iload_n hx hb dX11_fit_32 rfl (lv_at hl 0 rfl) ?_
    obtain ⟨rfl, rfl⟩ := so2 hf
    exact kR _ _ _ _ hW dX11_fit_33
  · replace hf := ift_ hf c3
    refine lv_iconst (v := (-1)) hx hb dX11_fit_12 (by decide) ?_
    obtain ⟨rfl, rfl⟩ := so2 hf
    exact kR _ _ _ _ hW dX11_fit_13

abbrev rm_X11_clashesAt : Room := { frames := 1, cells := 0, slots := 0, locals := 60 }
set_option maxHeartbeats 4000000 in
set_option maxRecDepth 100000 in
theorem c_X11_clashesAt (l : Launch) (E : En) (S : St) (a1 : Int32) (r : Int32) (hf : X11_clashesAt S a1 = some r) : Mi l E yX11_clashesAt cX11_clashesAt 7 (some .int) rm_X11_clashesAt [.ref (E.ad 60), .int a1] S r S := by
  refine g_startI (cc := cX11_clashesAt) (n := 7) (by decide) (Nat.le_of_ble_eq_true rfl) ?_
  intro p e s m args below meth c Q H locs C kR hW ls hl
  obtain ⟨⟨hx, hb, hml, hown, hts⟩, hK, hT⟩ := id C
  have hl : lv_has ls 7 [(0, .ref (E.ad 60)), (1, .int a1)] := hl
  have X11_clashesAt_L4_c : ∀ (S : St) (v1 : Int32) (res : Int32) (n : Nat) (v2 : Int32) (v3 : Int32) (H : Heap) (locs : List Loc) (ls : Array Slot), Ww E S s H locs → lv_has ls 7 [(0, .ref (E.ad 60)), (1, .int v1), (2, .int v2), (3, .int v3)] → X11_clashesAt_L4 S v1 n v2 v3 = some res → (∀ (w2 : Int32) (H : Heap) (locs : List Loc) (ls : Array Slot), some w2 = some res → Ww E S s H locs → lv_has ls 7 [(2, .int w2)] → W p l e rm_X11_clashesAt s m args below meth c H locs 0 0 Q (F0 m 110 ls [])) → W p l e rm_X11_clashesAt s m args below meth c H locs 0 0 Q (F0 m 4 ls []) := by
    intro S v1 res n
    induction n with
    | zero =>
      intro v2 v3 H locs ls hW hl hf
      cases hf
    | succ n ih =>
      intro v2 v3 H locs ls hW hl hf kE
      unfold X11_clashesAt_L4 at hf
      refine lv_iload_n hx hb dX11_clashesAt_4 rfl (lv_at hl 3 rfl) ?_
      refine lv_aload_n hx hb dX11_clashesAt_5 rfl (lv_at hl 0 rfl) ?_
      refine g_get (ci := 11) (k := 0) (val := .ref (E.ad 61)) C g_us hW rfl rfl rfl (in_sid _ rfl) (by decide) f_RX11_7 rfl dX11_clashesAt_6 ?_
      refine lv_sipush (v := 130) hx hb dX11_clashesAt_9 (by decide) ?_
      replace hf := bd_so hf
      obtain ⟨x1, h2, hf⟩ := hf
      refine g_iald C hW h2 dX11_clashesAt_12 ?_
      refine lv_icmp_ge (tgt := 110) hx hb dX11_clashesAt_13 (by decide) (fun c3 => ?_) (fun c3 => ?_)
      · replace hf := ift_ hf c3
        exact kE _ _ _ _ hf hW (lv_sub hl [2] rfl)
      · replace hf := iff_ hf c3
        refine lv_aload_n hx hb dX11_clashesAt_16 rfl (lv_at hl 0 rfl) ?_
        refine g_get (ci := 11) (k := 0) (val := .ref (E.ad 61)) C g_us hW rfl rfl rfl (in_sid _ rfl) (by decide) f_RX11_7 rfl dX11_clashesAt_17 ?_
        refine lv_sipush (v := 136) hx hb dX11_clashesAt_20 (by decide) ?_
        refine lv_iload_n hx hb dX11_clashesAt_23 rfl (lv_at hl 3 rfl) ?_
        refine lv_iadd hx hb dX11_clashesAt_24 ?_
        replace hf := bd_so hf
        obtain ⟨x4, h5, hf⟩ := hf
        refine g_iald C hW h5 dX11_clashesAt_25 ?_
        refine lv_bipush (v := 10) hx hb dX11_clashesAt_26 (by decide) ?_
        replace hf := bd_so hf
        obtain ⟨x6, h7, hf⟩ := hf
        refine g_irem C h7 dX11_clashesAt_28 ?_
        refine lv_istore (lv' := [(4, .int x6), (0, .ref (E.ad 60)), (1, .int v1), (2, .int v2), (3, .int v3)]) hx hb dX11_clashesAt_29 hl (by decide) rfl (fun ls hl => ?_)
        refine lv_aload_n hx hb dX11_clashesAt_31 rfl (lv_at hl 1 rfl) ?_
        refine g_get (ci := 11) (k := 0) (val := .ref (E.ad 61)) C g_us hW rfl rfl rfl (in_sid _ rfl) (by decide) f_RX11_7 rfl dX11_clashesAt_32 ?_
        refine lv_sipush (v := 136) hx hb dX11_clashesAt_35 (by decide) ?_
        refine lv_iload_n hx hb dX11_clashesAt_38 rfl (lv_at hl 4 rfl) ?_
        refine lv_iadd hx hb dX11_clashesAt_39 ?_
        refine lv_iload_n hx hb dX11_clashesAt_40 rfl (lv_at hl 2 rfl) ?_
        refine lv_isub hx hb dX11_clashesAt_41 ?_
        replace hf := bd_so hf
        obtain ⟨x8, h9, hf⟩ := hf
        refine g_iald C hW h9 dX11_clashesAt_42 ?_
        refine lv_bipush (v := 10) hx hb dX11_clashesAt_43 (by decide) ?_
        replace hf := bd_so hf
        obtain ⟨x10, h11, hf⟩ := hf
        refine g_irem C h11 dX11_clashesAt_45 ?_
        refine lv_istore (lv' := [(5, .int x10), (4, .int x6), (0, .ref (E.ad 60)), (1, .int v1), (2, .int v2), (3, .int v3)]) hx hb dX11_clashesAt_46 hl (by decide) rfl (fun ls hl => ?_)
        refine lv_iload hx hb dX11_clashesAt_48 (lv_at hl 1 rfl) ?_
        refine lv_iload hx hb dX11_clashesAt_50 (lv_at hl 0 rfl) ?_
        replace hf := bd_so hf
        obtain ⟨x13, h14, hf⟩ := hf
        have J15 : ∀ (H : Heap) (locs : List Loc) (ls : Array Slot), Ww E S s H locs → lv_has ls 7 [(0, .ref (E.ad 60)), (1, .int v1), (2, .int v2), (3, .int v3), (4, .int x6), (5, .int x10)] → W p l e rm_X11_clashesAt s m args below meth c H locs 0 0 Q (F0 m 68 ls [.int x13]) := by
          intro H locs ls hW hl
          refine lv_istore (lv' := [(6, .int x13), (0, .ref (E.ad 60)), (1, .int v1), (2, .int v2), (3, .int v3), (4, .int x6), (5, .int x10)]) hx hb dX11_clashesAt_68 hl (by decide) rfl (fun ls hl => ?_)
          refine lv_iload_n hx hb dX11_clashesAt_70 rfl (lv_at hl 3 rfl) ?_
          refine lv_iload hx hb dX11_clashesAt_71 (lv_at hl 5 rfl) ?_
          replace hf := bd_so hf
          obtain ⟨x17, h18, hf⟩ := hf
          have J19 : ∀ (H : Heap) (locs : List Loc) (ls : Array Slot), Ww E S s H locs → lv_has ls 7 [(0, .ref (E.ad 60)), (1, .int v1), (3, .int v3)] → W p l e rm_X11_clashesAt s m args below meth c H locs 0 0 Q (F0 m 102 ls [.int x17, .int v2]) := by
            intro H locs ls hW hl
            refine lv_iadd hx hb dX11_clashesAt_102 ?_
            refine lv_istore_n (lv' := [(2, .int (v2 + x17)), (0, .ref (E.ad 60)), (1, .int v1), (3, .int v3)]) hx hb dX11_clashesAt_103 rfl hl (by decide) rfl (fun ls hl => ?_)
            refine lv_iinc (v := (v3 + 1)) (lv' := [(3, .int (v3 + 1)), (2, .int (v2 + x17)), (0, .ref (E.ad 60)), (1, .int v1)]) hx hb dX11_clashesAt_104 hl (k := 3) rfl rfl (by decide) rfl (fun ls hl => ?_)
            refine lv_goto (tgt := 4) hx hb dX11_clashesAt_107 (by decide) ?_
            exact ih _ _ _ _ _ hW (lv_sub hl [2, 3, 1, 0] rfl) hf kE
          clear hf
          have hf := h18
          clear h18
          refine lv_if_le (tgt := 101) hx hb dX11_clashesAt_73 (by decide) (fun c16 => ?_) (fun c16 => ?_)
          · replace hf := ift_ hf c16
            refine lv_iconst (v := 0) hx hb dX11_clashesAt_101 (by decide) ?_
            obtain rfl := so1 hf
            exact J19 _ _ _ hW (lv_sub hl [1, 2, 4] rfl)
          · replace hf := iff_ hf c16
            refine lv_iload hx hb dX11_clashesAt_76 (lv_at hl 6 rfl) ?_
            refine lv_if_le (tgt := 101) hx hb dX11_clashesAt_78 (by decide) (fun c20 => ?_) (fun c20 => ?_)
            · replace hf := ift_ hf c20
              refine lv_iconst (v := 0) hx hb dX11_clashesAt_101 (by decide) ?_
              obtain rfl := so1 hf
              exact J19 _ _ _ hW (lv_sub hl [1, 2, 4] rfl)
            · replace hf := iff_ hf c20
              refine lv_aload_n hx hb dX11_clashesAt_81 rfl (lv_at hl 1 rfl) ?_
              refine g_get (ci := 11) (k := 0) (val := .ref (E.ad 61)) C g_us hW rfl rfl rfl (in_sid _ rfl) (by decide) f_RX11_7 rfl dX11_clashesAt_82 ?_
              refine lv_sipush (v := 129) hx hb dX11_clashesAt_85 (by decide) ?_
              replace hf := bd_so hf
              obtain ⟨x21, h22, hf⟩ := hf
              refine g_iald C hW h22 dX11_clashesAt_88 ?_
              refine lv_iload hx hb dX11_clashesAt_89 (lv_at hl 0 rfl) ?_
              refine lv_ishr hx hb dX11_clashesAt_91 ?_
              refine lv_iconst (v := 1) hx hb dX11_clashesAt_92 (by decide) ?_
              refine lv_iand hx hb dX11_clashesAt_93 ?_
              refine lv_if_ne (tgt := 101) hx hb dX11_clashesAt_94 (by decide) (fun c23 => ?_) (fun c23 => ?_)
              · replace hf := iff_ hf c23
                refine lv_iconst (v := 0) hx hb dX11_clashesAt_101 (by decide) ?_
                obtain rfl := so1 hf
                exact J19 _ _ _ hW (lv_sub hl [1, 2, 4] rfl)
              · replace hf := ift_ hf c23
                refine lv_iconst (v := 1) hx hb dX11_clashesAt_97 (by decide) ?_
                refine lv_goto (tgt := 102) hx hb dX11_clashesAt_98 (by decide) ?_
                obtain rfl := so1 hf
                exact J19 _ _ _ hW (lv_sub hl [1, 2, 4] rfl)
        clear hf
        have hf := h14
        clear h14
        refine lv_icmp_le (tgt := 63) hx hb dX11_clashesAt_52 (by decide) (fun c12 => ?_) (fun c12 => ?_)
        · replace hf := ift_ hf c12
          refine lv_iload hx hb dX11_clashesAt_63 (lv_at hl 0 rfl) ?_
          refine lv_iload hx hb dX11_clashesAt_65 (lv_at hl 1 rfl) ?_
          refine lv_isub hx hb dX11_clashesAt_67 ?_
          obtain rfl := so1 hf
          exact J15 _ _ _ hW (lv_sub hl [2, 3, 4, 5, 1, 0] rfl)
        · replace hf := iff_ hf c12
          refine lv_iload hx hb dX11_clashesAt_55 (lv_at hl 1 rfl) ?_
          refine lv_iload hx hb dX11_clashesAt_57 (lv_at hl 0 rfl) ?_
          refine lv_isub hx hb dX11_clashesAt_59 ?_
          refine lv_goto (tgt := 68) hx hb dX11_clashesAt_60 (by decide) ?_
          obtain rfl := so1 hf
          exact J15 _ _ _ hW (lv_sub hl [2, 3, 4, 5, 1, 0] rfl)
  unfold X11_clashesAt at hf
  refine lv_iconst (v := 0) hx hb dX11_clashesAt_0 (by decide) ?_
  refine lv_istore_n (lv' := [(2, .int 0), (0, .ref (E.ad 60)), (1, .int a1)]) hx hb dX11_clashesAt_1 rfl hl (by decide) rfl (fun ls hl => ?_)
  refine lv_iload_n hx hb dX11_clashesAt_2 rfl (lv_at hl 2 rfl) ?_
  refine lv_istore_n (lv' := [(3, .int a1), (2, .int 0), (0, .ref (E.ad 60)), (1, .int a1)]) hx hb dX11_clashesAt_3 rfl hl (by decide) rfl (fun ls hl => ?_)
  replace hf := bd_so hf
  obtain ⟨x24, h25, hf⟩ := hf
  have J26 : ∀ (H : Heap) (locs : List Loc) (ls : Array Slot), Ww E S s H locs → lv_has ls 7 [(2, .int x24)] → W p l e rm_X11_clashesAt s m args below meth c H locs 0 0 Q (F0 m 110 ls []) := by
    intro H locs ls hW hl
    refine lv_iload_n hx hb dX11_clashesAt_110 rfl (lv_at hl 0 rfl) ?_
    obtain rfl := so1 hf
    exact kR _ _ _ _ hW dX11_clashesAt_111
  exact X11_clashesAt_L4_c _ _ _ FU _ _ _ _ _ hW (lv_sub hl [2, 3, 1, 0] rfl) h25 (fun _ H locs ls e hW hl => by cases e; exact J26 H locs ls hW hl)

abbrev rm_X11_clashes : Room := { frames := 2, cells := 0, slots := 0, locals := 86 }
set_option maxHeartbeats 4000000 in
set_option maxRecDepth 100000 in
theorem c_X11_clashes (l : Launch) (E : En) (S : St) (a1 : Int32) (r : Int32) (hf : X11_clashes S a1 = some r) : Mi l E yX11_clashes cX11_clashes 2 (some .int) rm_X11_clashes [.ref (E.ad 60), .int a1] S r S := by
  refine g_startI (cc := cX11_clashes) (n := 2) (by decide) (Nat.le_of_ble_eq_true rfl) ?_
  intro p e s m args below meth c Q H locs C kR hW ls hl
  obtain ⟨⟨hx, hb, hml, hown, hts⟩, hK, hT⟩ := id C
  have hl : lv_has ls 2 [(0, .ref (E.ad 60)), (1, .int a1)] := hl
  unfold X11_clashes at hf
  refine lv_iload_n hx hb dX11_clashes_0 rfl (lv_at hl 1 rfl) ?_
  refine lv_i2l (v := (a1 : Int32).toInt64) hx hb dX11_clashes_1 rfl ?_
  refine lv_lconst (v := 1) hx hb dX11_clashes_2 (by decide) ?_
  refine lv_aload_n hx hb dX11_clashes_3 rfl (lv_at hl 0 rfl) ?_
  refine g_get (ci := 11) (k := 0) (val := .ref (E.ad 61)) C g_us hW rfl rfl rfl (in_sid _ rfl) (by decide) f_RX11_7 rfl dX11_clashes_4 ?_
  refine lv_sipush (v := 130) hx hb dX11_clashes_7 (by decide) ?_
  replace hf := bd_so hf
  obtain ⟨x1, h2, hf⟩ := hf
  refine g_iald C hW h2 dX11_clashes_10 ?_
  refine lv_iconst (v := 1) hx hb dX11_clashes_11 (by decide) ?_
  refine lv_isub hx hb dX11_clashes_12 ?_
  refine lv_i2l (v := ((x1 - 1) : Int32).toInt64) hx hb dX11_clashes_13 rfl ?_
  replace hf := bd_so hf
  obtain ⟨x4, h3, hf⟩ := hf
  refine g_callSi (As := [.long ((a1 : Int32).toInt64), .long 1, .long (((x1 - 1) : Int32).toInt64)]) (rest := []) C g_us hW hl.1 (c_X11_in l E S ((a1 : Int32).toInt64) 1 (((x1 - 1) : Int32).toInt64) _ h3) k_RX11_72 rfl ⟨rfl, rfl⟩ ⟨Nat.le_of_ble_eq_true rfl, Nat.le_of_ble_eq_true rfl⟩ ⟨Nat.zero_le _, Nat.zero_le _⟩ _ rfl (Nat.le_of_ble_eq_true rfl) dX11_clashes_14 (fun H locs hW => ?_)
  refine lv_if_eq (tgt := 28) hx hb dX11_clashes_17 (by decide) (fun c5 => ?_) (fun c5 => ?_)
  · replace hf := ift_ hf c5
    refine lv_iconst (v := (-1)) hx hb dX11_clashes_28 (by decide) ?_
    obtain rfl := so1 hf
    exact kR _ _ _ _ hW dX11_clashes_29
  · replace hf := iff_ hf c5
    refine lv_aload_n hx hb dX11_clashes_20 rfl (lv_at hl 0 rfl) ?_
    refine lv_iload_n hx hb dX11_clashes_21 rfl (lv_at hl 1 rfl) ?_
    replace hf := bd_so hf
    obtain ⟨x7, h6, hf⟩ := hf
    refine g_callVi (ci := 11) (As := [.int a1]) (rest := []) C g_us hW hl.1 (c_X11_clashesAt l E S a1 _ h6) rfl rfl rfl (in_sid _ rfl) k_RX11_174 rfl ⟨rfl, rfl⟩ ⟨Nat.le_of_ble_eq_true rfl, Nat.le_of_ble_eq_true rfl⟩ ⟨Nat.zero_le _, Nat.zero_le _⟩ _ rfl (Nat.le_of_ble_eq_true rfl) dX11_clashes_22 (fun H locs hW => ?_)
    refine lv_goto (tgt := 29) hx hb dX11_clashes_25 (by decide) ?_
    obtain rfl := so1 hf
    exact kR _ _ _ _ hW dX11_clashes_29

abbrev rm_X11_canon : Room := { frames := 2, cells := 0, slots := 0, locals := 86 }
set_option maxHeartbeats 4000000 in
set_option maxRecDepth 100000 in
theorem c_X11_canon (l : Launch) (E : En) (S : St) (a1 : Int32) (r : Int32) (hf : X11_canon S a1 = some r) : Mi l E yX11_canon cX11_canon 5 (some .int) rm_X11_canon [.ref (E.ad 60), .int a1] S r S := by
  refine g_startI (cc := cX11_canon) (n := 5) (by decide) (Nat.le_of_ble_eq_true rfl) ?_
  intro p e s m args below meth c Q H locs C kR hW ls hl
  obtain ⟨⟨hx, hb, hml, hown, hts⟩, hK, hT⟩ := id C
  have hl : lv_has ls 5 [(0, .ref (E.ad 60)), (1, .int a1)] := hl
  have X11_canon_L10_c : ∀ (S : St) (res : (Unit) ⊕ (Int32)) (n : Nat) (v2 : Int32) (v3 : Int32) (H : Heap) (locs : List Loc) (ls : Array Slot), Ww E S s H locs → lv_has ls 5 [(0, .ref (E.ad 60)), (2, .int v2), (3, .int v3)] → X11_canon_L10 S  n v2 v3 = some res → (∀ (H : Heap) (locs : List Loc) (ls : Array Slot), some (.inl ()) = some res → Ww E S s H locs → lv_has ls 5 [] → W p l e rm_X11_canon s m args below meth c H locs 0 0 Q (F0 m 67 ls [])) → (∀ (r0 : Int32) (H : Heap) (locs : List Loc) (pc : Nat) (ls : Array Slot), some (.inr r0) = some res → Ww E S s H locs → decode cX11_canon pc = .ok (.ireturn, 1) → W p l e rm_X11_canon s m args below meth c H locs 0 0 Q (F0 m pc ls [.int r0])) → W p l e rm_X11_canon s m args below meth c H locs 0 0 Q (F0 m 10 ls []) := by
    intro S  res n
    induction n with
    | zero =>
      intro v2 v3 H locs ls hW hl hf
      cases hf
    | succ n ih =>
      intro v2 v3 H locs ls hW hl hf kE kR
      unfold X11_canon_L10 at hf
      refine lv_iload_n hx hb dX11_canon_10 rfl (lv_at hl 2 rfl) ?_
      refine lv_aload_n hx hb dX11_canon_11 rfl (lv_at hl 0 rfl) ?_
      refine g_get (ci := 11) (k := 0) (val := .ref (E.ad 61)) C g_us hW rfl rfl rfl (in_sid _ rfl) (by decide) f_RX11_7 rfl dX11_canon_12 ?_
      refine lv_sipush (v := 130) hx hb dX11_canon_15 (by decide) ?_
      replace hf := bd_so hf
      obtain ⟨x2, h3, hf⟩ := hf
      refine g_iald C hW h3 dX11_canon_18 ?_
      refine lv_icmp_ge (tgt := 67) hx hb dX11_canon_19 (by decide) (fun c4 => ?_) (fun c4 => ?_)
      · replace hf := ift_ hf c4
        exact kE  _ _ _ hf hW (lv_sub hl [] rfl)
      · replace hf := iff_ hf c4
        refine lv_aload_n hx hb dX11_canon_22 rfl (lv_at hl 0 rfl) ?_
        refine lv_iload_n hx hb dX11_canon_23 rfl (lv_at hl 2 rfl) ?_
        replace hf := bd_so hf
        obtain ⟨x6, h5, hf⟩ := hf
        refine g_callVi (ci := 11) (As := [.int v3]) (rest := []) C g_us hW hl.1 (c_X11_clashesAt l E S v3 _ h5) rfl rfl rfl (in_sid _ rfl) k_RX11_174 rfl ⟨rfl, rfl⟩ ⟨Nat.le_of_ble_eq_true rfl, Nat.le_of_ble_eq_true rfl⟩ ⟨Nat.zero_le _, Nat.zero_le _⟩ _ rfl (Nat.le_of_ble_eq_true rfl) dX11_canon_24 (fun H locs hW => ?_)
        replace hf := bd_so hf
        obtain ⟨x8, h9, hf⟩ := hf
        have J10 : ∀ (H : Heap) (locs : List Loc) (ls : Array Slot), Ww E S s H locs → lv_has ls 5 [(0, .ref (E.ad 60)), (2, .int v2), (3, .int v3)] → W p l e rm_X11_canon s m args below meth c H locs 0 0 Q (F0 m 35 ls [.int x8]) := by
          intro H locs ls hW hl
          refine lv_istore (lv' := [(4, .int x8), (0, .ref (E.ad 60)), (2, .int v2), (3, .int v3)]) hx hb dX11_canon_35 hl (by decide) rfl (fun ls hl => ?_)
          refine lv_iload hx hb dX11_canon_37 (lv_at hl 0 rfl) ?_
          refine lv_if_eq (tgt := 48) hx hb dX11_canon_39 (by decide) (fun c11 => ?_) (fun c11 => ?_)
          · replace hf := ift_ hf c11
            refine lv_iload_n hx hb dX11_canon_48 rfl (lv_at hl 2 rfl) ?_
            refine lv_iload hx hb dX11_canon_49 (lv_at hl 0 rfl) ?_
            replace hf := bd_so hf
            obtain ⟨x13, h14, hf⟩ := hf
            have J15 : ∀ (H : Heap) (locs : List Loc) (ls : Array Slot), Ww E S s H locs → lv_has ls 5 [(0, .ref (E.ad 60)), (3, .int v3)] → W p l e rm_X11_canon s m args below meth c H locs 0 0 Q (F0 m 59 ls [.int x13, .int v2]) := by
              intro H locs ls hW hl
              refine lv_isub hx hb dX11_canon_59 ?_
              refine lv_istore_n (lv' := [(2, .int (v2 - x13)), (0, .ref (E.ad 60)), (3, .int v3)]) hx hb dX11_canon_60 rfl hl (by decide) rfl (fun ls hl => ?_)
              refine lv_iinc (v := (v3 + 1)) (lv' := [(3, .int (v3 + 1)), (2, .int (v2 - x13)), (0, .ref (E.ad 60))]) hx hb dX11_canon_61 hl (k := 2) rfl rfl (by decide) rfl (fun ls hl => ?_)
              refine lv_goto (tgt := 10) hx hb dX11_canon_64 (by decide) ?_
              exact ih _ _ _ _ _ hW (lv_sub hl [2, 1, 0] rfl) hf kE kR
            clear hf
            have hf := h14
            clear h14
            refine lv_if_eq (tgt := 58) hx hb dX11_canon_51 (by decide) (fun c12 => ?_) (fun c12 => ?_)
            · replace hf := ift_ hf c12
              refine lv_iconst (v := 0) hx hb dX11_canon_58 (by decide) ?_
              obtain rfl := so1 hf
              exact J15 _ _ _ hW (lv_sub hl [1, 3] rfl)
            · replace hf := iff_ hf c12
              refine lv_iconst (v := 1) hx hb dX11_canon_54 (by decide) ?_
              refine lv_goto (tgt := 59) hx hb dX11_canon_55 (by decide) ?_
              obtain rfl := so1 hf
              exact J15 _ _ _ hW (lv_sub hl [1, 3] rfl)
          · replace hf := iff_ hf c11
            refine lv_iload_n hx hb dX11_canon_42 rfl (lv_at hl 2 rfl) ?_
            refine lv_if_ne (tgt := 48) hx hb dX11_canon_43 (by decide) (fun c16 => ?_) (fun c16 => ?_)
            · replace hf := iff_ hf c16
              refine lv_iload_n hx hb dX11_canon_48 rfl (lv_at hl 2 rfl) ?_
              refine lv_iload hx hb dX11_canon_49 (lv_at hl 0 rfl) ?_
              replace hf := bd_so hf
              obtain ⟨x18, h19, hf⟩ := hf
              have J20 : ∀ (H : Heap) (locs : List Loc) (ls : Array Slot), Ww E S s H locs → lv_has ls 5 [(0, .ref (E.ad 60)), (3, .int v3)] → W p l e rm_X11_canon s m args below meth c H locs 0 0 Q (F0 m 59 ls [.int x18, .int v2]) := by
                intro H locs ls hW hl
                refine lv_isub hx hb dX11_canon_59 ?_
                refine lv_istore_n (lv' := [(2, .int (v2 - x18)), (0, .ref (E.ad 60)), (3, .int v3)]) hx hb dX11_canon_60 rfl hl (by decide) rfl (fun ls hl => ?_)
                refine lv_iinc (v := (v3 + 1)) (lv' := [(3, .int (v3 + 1)), (2, .int (v2 - x18)), (0, .ref (E.ad 60))]) hx hb dX11_canon_61 hl (k := 2) rfl rfl (by decide) rfl (fun ls hl => ?_)
                refine lv_goto (tgt := 10) hx hb dX11_canon_64 (by decide) ?_
                exact ih _ _ _ _ _ hW (lv_sub hl [2, 1, 0] rfl) hf kE kR
              clear hf
              have hf := h19
              clear h19
              refine lv_if_eq (tgt := 58) hx hb dX11_canon_51 (by decide) (fun c17 => ?_) (fun c17 => ?_)
              · replace hf := ift_ hf c17
                refine lv_iconst (v := 0) hx hb dX11_canon_58 (by decide) ?_
                obtain rfl := so1 hf
                exact J20 _ _ _ hW (lv_sub hl [1, 3] rfl)
              · replace hf := iff_ hf c17
                refine lv_iconst (v := 1) hx hb dX11_canon_54 (by decide) ?_
                refine lv_goto (tgt := 59) hx hb dX11_canon_55 (by decide) ?_
                obtain rfl := so1 hf
                exact J20 _ _ _ hW (lv_sub hl [1, 3] rfl)
            · replace hf := ift_ hf c16
              refine lv_iload_n hx hb dX11_canon_46 rfl (lv_at hl 3 rfl) ?_
              exact kR _ _ _ _ _ hf hW dX11_canon_47
        clear hf
        have hf := h9
        clear h9
        refine lv_if_ne (tgt := 34) hx hb dX11_canon_27 (by decide) (fun c7 => ?_) (fun c7 => ?_)
        · replace hf := iff_ hf c7
          refine lv_iconst (v := 0) hx hb dX11_canon_34 (by decide) ?_
          obtain rfl := so1 hf
          exact J10 _ _ _ hW (lv_sub hl [0, 1, 2] rfl)
        · replace hf := ift_ hf c7
          refine lv_iconst (v := 1) hx hb dX11_canon_30 (by decide) ?_
          refine lv_goto (tgt := 35) hx hb dX11_canon_31 (by decide) ?_
          obtain rfl := so1 hf
          exact J10 _ _ _ hW (lv_sub hl [0, 1, 2] rfl)
  unfold X11_canon at hf
  refine lv_iload_n hx hb dX11_canon_0 rfl (lv_at hl 1 rfl) ?_
  refine lv_if_ge (tgt := 6) hx hb dX11_canon_1 (by decide) (fun c1 => ?_) (fun c1 => ?_)
  · replace hf := ift_ hf c1
    refine lv_iload_n hx hb dX11_canon_6 rfl (lv_at hl 1 rfl) ?_
    refine lv_istore_n (lv' := [(2, .int a1), (0, .ref (E.ad 60)), (1, .int a1)]) hx hb dX11_canon_7 rfl hl (by decide) rfl (fun ls hl => ?_)
    refine lv_iconst (v := 1) hx hb dX11_canon_8 (by decide) ?_
    refine lv_istore_n (lv' := [(3, .int 1), (2, .int a1), (0, .ref (E.ad 60)), (1, .int a1)]) hx hb dX11_canon_9 rfl hl (by decide) rfl (fun ls hl => ?_)
    replace hf := bd_so hf
    obtain ⟨t, h21, hf⟩ := hf
    rcases t with u | x23
    · dsimp only at hf
      have J22 : ∀ (H : Heap) (locs : List Loc) (ls : Array Slot), Ww E S s H locs → lv_has ls 5 [] → W p l e rm_X11_canon s m args below meth c H locs 0 0 Q (F0 m 67 ls []) := by
        intro H locs ls hW hl
        refine lv_bipush (v := (-4)) hx hb dX11_canon_67 (by decide) ?_
        obtain rfl := so1 hf
        exact kR _ _ _ _ hW dX11_canon_69
      exact X11_canon_L10_c _ _ FU _ _ _ _ _ hW (lv_sub hl [2, 1, 0] rfl) h21 (fun H locs ls e hW hl => by cases e; exact J22 H locs ls hW hl) (fun _ H locs pc ls e hW dd => by cases e)
    · dsimp only at hf
      refine X11_canon_L10_c _ _ FU _ _ _ _ _ hW (lv_sub hl [2, 1, 0] rfl) h21 (fun H locs ls e hW hl => by cases e) (fun _ H locs pc ls e hW dd => ?_)
      cases e
      obtain rfl := so1 hf
      exact kR _ _ _ _ hW dd
  · replace hf := iff_ hf c1
    refine lv_iconst (v := (-1)) hx hb dX11_canon_4 (by decide) ?_
    obtain rfl := so1 hf
    exact kR _ _ _ _ hW dX11_canon_5

abbrev rm_X11_sea : Room := { frames := 2, cells := 0, slots := 0, locals := 85 }
set_option maxHeartbeats 4000000 in
set_option maxRecDepth 100000 in
theorem c_X11_sea (l : Launch) (E : En) (S : St) (a1 : Int32) (a2 : Int32) (r : Int32) (hf : X11_sea S a1 a2 = some r) : Mi l E yX11_sea cX11_sea 3 (some .int) rm_X11_sea [.ref (E.ad 60), .int a1, .int a2] S r S := by
  refine g_startI (cc := cX11_sea) (n := 3) (by decide) (Nat.le_of_ble_eq_true rfl) ?_
  intro p e s m args below meth c Q H locs C kR hW ls hl
  obtain ⟨⟨hx, hb, hml, hown, hts⟩, hK, hT⟩ := id C
  have hl : lv_has ls 3 [(0, .ref (E.ad 60)), (1, .int a1), (2, .int a2)] := hl
  unfold X11_sea at hf
  refine lv_iload_n hx hb dX11_sea_0 rfl (lv_at hl 1 rfl) ?_
  refine lv_i2l (v := (a1 : Int32).toInt64) hx hb dX11_sea_1 rfl ?_
  refine lv_lconst (v := 1) hx hb dX11_sea_2 (by decide) ?_
  refine lv_ldc2 hx hb hown (hts _ (g_us _ q_RX11_177)) dX11_sea_3 ?_
  replace hf := bd_so hf
  obtain ⟨x2, h1, hf⟩ := hf
  refine g_callSi (As := [.long ((a1 : Int32).toInt64), .long 1, .long 63]) (rest := []) C g_us hW hl.1 (c_X11_in l E S ((a1 : Int32).toInt64) 1 63 _ h1) k_RX11_72 rfl ⟨rfl, rfl⟩ ⟨Nat.le_of_ble_eq_true rfl, Nat.le_of_ble_eq_true rfl⟩ ⟨Nat.zero_le _, Nat.zero_le _⟩ _ rfl (Nat.le_of_ble_eq_true rfl) dX11_sea_6 (fun H locs hW => ?_)
  refine lv_if_eq (tgt := 24) hx hb dX11_sea_9 (by decide) (fun c3 => ?_) (fun c3 => ?_)
  · replace hf := ift_ hf c3
    refine lv_iconst (v := (-1)) hx hb dX11_sea_24 (by decide) ?_
    obtain rfl := so1 hf
    exact kR _ _ _ _ hW dX11_sea_25
  · replace hf := iff_ hf c3
    refine lv_iload_n hx hb dX11_sea_12 rfl (lv_at hl 2 rfl) ?_
    refine lv_i2l (v := (a2 : Int32).toInt64) hx hb dX11_sea_13 rfl ?_
    refine lv_lconst (v := 1) hx hb dX11_sea_14 (by decide) ?_
    refine lv_ldc2 hx hb hown (hts _ (g_us _ q_RX11_179)) dX11_sea_15 ?_
    replace hf := bd_so hf
    obtain ⟨x5, h4, hf⟩ := hf
    refine g_callSi (As := [.long ((a2 : Int32).toInt64), .long 1, .long 40000]) (rest := []) C g_us hW hl.1 (c_X11_in l E S ((a2 : Int32).toInt64) 1 40000 _ h4) k_RX11_72 rfl ⟨rfl, rfl⟩ ⟨Nat.le_of_ble_eq_true rfl, Nat.le_of_ble_eq_true rfl⟩ ⟨Nat.zero_le _, Nat.zero_le _⟩ _ rfl (Nat.le_of_ble_eq_true rfl) dX11_sea_18 (fun H locs hW => ?_)
    refine lv_if_ne (tgt := 26) hx hb dX11_sea_21 (by decide) (fun c6 => ?_) (fun c6 => ?_)
    · replace hf := iff_ hf c6
      refine lv_iload_n hx hb dX11_sea_26 rfl (lv_at hl 2 rfl) ?_
      refine lv_iload_n hx hb dX11_sea_27 rfl (lv_at hl 1 rfl) ?_
      replace hf := bd_so hf
      obtain ⟨x7, h8, hf⟩ := hf
      refine g_irem C h8 dX11_sea_28 ?_
      refine lv_if_ne (tgt := 41) hx hb dX11_sea_29 (by decide) (fun c9 => ?_) (fun c9 => ?_)
      · replace hf := iff_ hf c9
        refine lv_bipush (v := (-4)) hx hb dX11_sea_41 (by decide) ?_
        refine lv_goto (tgt := 49) hx hb dX11_sea_43 (by decide) ?_
        obtain rfl := so1 hf
        exact kR _ _ _ _ hW dX11_sea_49
      · replace hf := ift_ hf c9
        refine lv_iload_n hx hb dX11_sea_32 rfl (lv_at hl 2 rfl) ?_
        refine lv_iload_n hx hb dX11_sea_33 rfl (lv_at hl 1 rfl) ?_
        replace hf := bd_so hf
        obtain ⟨x10, h11, hf⟩ := hf
        refine g_idiv C h11 dX11_sea_34 ?_
        refine lv_sipush (v := 2000) hx hb dX11_sea_35 (by decide) ?_
        refine lv_icmp_le (tgt := 46) hx hb dX11_sea_38 (by decide) (fun c12 => ?_) (fun c12 => ?_)
        · replace hf := ift_ hf c12
          refine lv_iload_n hx hb dX11_sea_46 rfl (lv_at hl 2 rfl) ?_
          refine lv_iload_n hx hb dX11_sea_47 rfl (lv_at hl 1 rfl) ?_
          replace hf := bd_so hf
          obtain ⟨x13, h14, hf⟩ := hf
          refine g_idiv C h14 dX11_sea_48 ?_
          obtain rfl := so1 hf
          exact kR _ _ _ _ hW dX11_sea_49
        · replace hf := iff_ hf c12
          refine lv_bipush (v := (-4)) hx hb dX11_sea_41 (by decide) ?_
          refine lv_goto (tgt := 49) hx hb dX11_sea_43 (by decide) ?_
          obtain rfl := so1 hf
          exact kR _ _ _ _ hW dX11_sea_49
    · replace hf := ift_ hf c6
      refine lv_iconst (v := (-1)) hx hb dX11_sea_24 (by decide) ?_
      obtain rfl := so1 hf
      exact kR _ _ _ _ hW dX11_sea_25

abbrev rm_X11_lose : Room := { frames := 3, cells := 0, slots := 0, locals := 106 }
set_option maxHeartbeats 4000000 in
set_option maxRecDepth 100000 in
theorem c_X11_lose (l : Launch) (E : En) (S : St) (a1 : Int32) (a2 : Int32) (a3 : Int32) (a4 : Int32) (r : Int32) (S1 : St) (hf : X11_lose S a1 a2 a3 a4 = some (r, S1)) : Mi l E yX11_lose cX11_lose 7 (some .int) rm_X11_lose [.ref (E.ad 60), .int a1, .int a2, .int a3, .int a4] S r S1 := by
  refine g_startI (cc := cX11_lose) (n := 7) (by decide) (Nat.le_of_ble_eq_true rfl) ?_
  intro p e s m args below meth c Q H locs C kR hW ls hl
  obtain ⟨⟨hx, hb, hml, hown, hts⟩, hK, hT⟩ := id C
  have hl : lv_has ls 7 [(0, .ref (E.ad 60)), (1, .int a1), (2, .int a2), (3, .int a3), (4, .int a4)] := hl
  unfold X11_lose at hf
  refine lv_iload_n hx hb dX11_lose_0 rfl (lv_at hl 1 rfl) ?_
  refine lv_i2l (v := (a1 : Int32).toInt64) hx hb dX11_lose_1 rfl ?_
  refine lv_lconst (v := 1) hx hb dX11_lose_2 (by decide) ?_
  refine lv_ldc2 hx hb hown (hts _ (g_us _ q_RX11_181)) dX11_lose_3 ?_
  replace hf := bd_so hf
  obtain ⟨x2, h1, hf⟩ := hf
  refine g_callSi (As := [.long ((a1 : Int32).toInt64), .long 1, .long 7]) (rest := []) C g_us hW hl.1 (c_X11_in l E S ((a1 : Int32).toInt64) 1 7 _ h1) k_RX11_72 rfl ⟨rfl, rfl⟩ ⟨Nat.le_of_ble_eq_true rfl, Nat.le_of_ble_eq_true rfl⟩ ⟨Nat.zero_le _, Nat.zero_le _⟩ _ rfl (Nat.le_of_ble_eq_true rfl) dX11_lose_6 (fun H locs hW => ?_)
  refine lv_if_eq (tgt := 33) hx hb dX11_lose_9 (by decide) (fun c3 => ?_) (fun c3 => ?_)
  · replace hf := ift_ hf c3
    refine lv_iconst (v := (-1)) hx hb dX11_lose_33 (by decide) ?_
    obtain ⟨rfl, rfl⟩ := so2 hf
    exact kR _ _ _ _ hW dX11_lose_34
  · replace hf := iff_ hf c3
    refine lv_aload_n hx hb dX11_lose_12 rfl (lv_at hl 0 rfl) ?_
    refine lv_iload_n hx hb dX11_lose_13 rfl (lv_at hl 2 rfl) ?_
    replace hf := bd_so hf
    obtain ⟨x5, h4, hf⟩ := hf
    refine g_callVi (ci := 11) (As := [.int a2]) (rest := []) C g_us hW hl.1 (c_X11_isRoom l E S a2 _ h4) rfl rfl rfl (in_sid _ rfl) k_RX11_86 rfl ⟨rfl, rfl⟩ ⟨Nat.le_of_ble_eq_true rfl, Nat.le_of_ble_eq_true rfl⟩ ⟨Nat.zero_le _, Nat.zero_le _⟩ _ rfl (Nat.le_of_ble_eq_true rfl) dX11_lose_14 (fun H locs hW => ?_)
    refine lv_if_eq (tgt := 33) hx hb dX11_lose_17 (by decide) (fun c6 => ?_) (fun c6 => ?_)
    · replace hf := ift_ hf c6
      refine lv_iconst (v := (-1)) hx hb dX11_lose_33 (by decide) ?_
      obtain ⟨rfl, rfl⟩ := so2 hf
      exact kR _ _ _ _ hW dX11_lose_34
    · replace hf := iff_ hf c6
      refine lv_aload_n hx hb dX11_lose_20 rfl (lv_at hl 0 rfl) ?_
      refine lv_iload_n hx hb dX11_lose_21 rfl (lv_at hl 3 rfl) ?_
      replace hf := bd_so hf
      obtain ⟨x8, h7, hf⟩ := hf
      refine g_callVi (ci := 11) (As := [.int a3]) (rest := []) C g_us hW hl.1 (c_X11_isRoom l E S a3 _ h7) rfl rfl rfl (in_sid _ rfl) k_RX11_86 rfl ⟨rfl, rfl⟩ ⟨Nat.le_of_ble_eq_true rfl, Nat.le_of_ble_eq_true rfl⟩ ⟨Nat.zero_le _, Nat.zero_le _⟩ _ rfl (Nat.le_of_ble_eq_true rfl) dX11_lose_22 (fun H locs hW => ?_)
      refine lv_if_eq (tgt := 33) hx hb dX11_lose_25 (by decide) (fun c9 => ?_) (fun c9 => ?_)
      · replace hf := ift_ hf c9
        refine lv_iconst (v := (-1)) hx hb dX11_lose_33 (by decide) ?_
        obtain ⟨rfl, rfl⟩ := so2 hf
        exact kR _ _ _ _ hW dX11_lose_34
      · replace hf := iff_ hf c9
        refine lv_iload_n hx hb dX11_lose_28 rfl (lv_at hl 2 rfl) ?_
        refine lv_iload_n hx hb dX11_lose_29 rfl (lv_at hl 3 rfl) ?_
        refine lv_icmp_ne (tgt := 35) hx hb dX11_lose_30 (by decide) (fun c10 => ?_) (fun c10 => ?_)
        · replace hf := iff_ hf c10
          refine lv_sipush (v := 200) hx hb dX11_lose_35 (by decide) ?_
          refine lv_bipush (v := 64) hx hb dX11_lose_38 (by decide) ?_
          refine lv_iload_n hx hb dX11_lose_40 rfl (lv_at hl 1 rfl) ?_
          refine lv_iconst (v := 1) hx hb dX11_lose_41 (by decide) ?_
          refine lv_isub hx hb dX11_lose_42 ?_
          refine lv_imul hx hb dX11_lose_43 ?_
          refine lv_iadd hx hb dX11_lose_44 ?_
          refine lv_bipush (v := 8) hx hb dX11_lose_45 (by decide) ?_
          refine lv_iload_n hx hb dX11_lose_47 rfl (lv_at hl 2 rfl) ?_
          refine lv_imul hx hb dX11_lose_48 ?_
          refine lv_iadd hx hb dX11_lose_49 ?_
          refine lv_iload_n hx hb dX11_lose_50 rfl (lv_at hl 3 rfl) ?_
          refine lv_iadd hx hb dX11_lose_51 ?_
          refine lv_istore (lv' := [(5, .int (((200 + (64 * (a1 - 1))) + (8 * a2)) + a3)), (0, .ref (E.ad 60)), (1, .int a1), (2, .int a2), (3, .int a3), (4, .int a4)]) hx hb dX11_lose_52 hl (by decide) rfl (fun ls hl => ?_)
          refine lv_aload_n hx hb dX11_lose_54 rfl (lv_at hl 1 rfl) ?_
          refine g_get (ci := 11) (k := 0) (val := .ref (E.ad 61)) C g_us hW rfl rfl rfl (in_sid _ rfl) (by decide) f_RX11_7 rfl dX11_lose_55 ?_
          refine lv_iload hx hb dX11_lose_58 (lv_at hl 0 rfl) ?_
          replace hf := bd_so hf
          obtain ⟨x11, h12, hf⟩ := hf
          refine g_iald C hW h12 dX11_lose_60 ?_
          refine lv_istore (lv' := [(6, .int x11), (5, .int (((200 + (64 * (a1 - 1))) + (8 * a2)) + a3)), (0, .ref (E.ad 60)), (1, .int a1), (2, .int a2), (3, .int a3), (4, .int a4)]) hx hb dX11_lose_61 hl (by decide) rfl (fun ls hl => ?_)
          refine lv_aload_n hx hb dX11_lose_63 rfl (lv_at hl 2 rfl) ?_
          refine g_get (ci := 11) (k := 0) (val := .ref (E.ad 61)) C g_us hW rfl rfl rfl (in_sid _ rfl) (by decide) f_RX11_7 rfl dX11_lose_64 ?_
          refine lv_iload hx hb dX11_lose_67 (lv_at hl 1 rfl) ?_
          refine lv_iload hx hb dX11_lose_69 (lv_at hl 6 rfl) ?_
          replace hf := bd_so hf
          obtain ⟨x14, h15, hf⟩ := hf
          have J16 : ∀ (H : Heap) (locs : List Loc) (ls : Array Slot), Ww E S s H locs → lv_has ls 7 [(6, .int x11)] → W p l e rm_X11_lose s m args below meth c H locs 0 0 Q (F0 m 79 ls [.int x14, .int (((200 + (64 * (a1 - 1))) + (8 * a2)) + a3), .ref (E.ad 61)]) := by
            intro H locs ls hW hl
            replace hf := bd_so hf
            obtain ⟨S17, h18, hf⟩ := hf
            refine g_iast C hW h18 dX11_lose_79 (fun H locs hW => ?_)
            refine lv_iload hx hb dX11_lose_80 (lv_at hl 0 rfl) ?_
            obtain ⟨rfl, rfl⟩ := so2 hf
            exact kR _ _ _ _ hW dX11_lose_82
          clear hf
          have hf := h15
          clear h15
          refine lv_if_eq (tgt := 78) hx hb dX11_lose_71 (by decide) (fun c13 => ?_) (fun c13 => ?_)
          · replace hf := ift_ hf c13
            refine lv_iconst (v := 0) hx hb dX11_lose_78 (by decide) ?_
            obtain rfl := so1 hf
            exact J16 _ _ _ hW (lv_sub hl [0] rfl)
          · replace hf := iff_ hf c13
            refine lv_iconst (v := 1) hx hb dX11_lose_74 (by decide) ?_
            refine lv_goto (tgt := 79) hx hb dX11_lose_75 (by decide) ?_
            obtain rfl := so1 hf
            exact J16 _ _ _ hW (lv_sub hl [0] rfl)
        · replace hf := ift_ hf c10
          refine lv_iconst (v := (-1)) hx hb dX11_lose_33 (by decide) ?_
          obtain ⟨rfl, rfl⟩ := so2 hf
          exact kR _ _ _ _ hW dX11_lose_34

abbrev rm_X11_tells : Room := { frames := 3, cells := 0, slots := 0, locals := 103 }
set_option maxHeartbeats 4000000 in
set_option maxRecDepth 100000 in
theorem c_X11_tells (l : Launch) (E : En) (S : St) (a1 : Int32) (S1 : St) (hf : X11_tells S a1 = some S1) : Mv l E yX11_tells cX11_tells 6 none rm_X11_tells [.ref (E.ad 60), .int a1] S S1 := by
  refine g_startV (cc := cX11_tells) (n := 6) (by decide) (Nat.le_of_ble_eq_true rfl) ?_
  intro p e s m args below meth c Q H locs C kR hW ls hl
  obtain ⟨⟨hx, hb, hml, hown, hts⟩, hK, hT⟩ := id C
  have hl : lv_has ls 6 [(0, .ref (E.ad 60)), (1, .int a1)] := hl
  have X11_tells_L2_c : ∀ (v1 : Int32) (res : St) (n : Nat) (v2 : Int32) (S : St) (H : Heap) (locs : List Loc) (ls : Array Slot), Ww E S s H locs → lv_has ls 6 [(0, .ref (E.ad 60)), (1, .int v1), (2, .int v2)] → X11_tells_L2 v1 n v2 S = some res → (∀ (T : St) (H : Heap) (locs : List Loc) (ls : Array Slot), some T = some res → Ww E T s H locs → lv_has ls 6 [(0, .ref (E.ad 60)), (1, .int v1)] → W p l e rm_X11_tells s m args below meth c H locs 0 0 Q (F0 m 25 ls [])) → W p l e rm_X11_tells s m args below meth c H locs 0 0 Q (F0 m 2 ls []) := by
    intro v1 res n
    induction n with
    | zero =>
      intro v2 S H locs ls hW hl hf
      cases hf
    | succ n ih =>
      intro v2 S H locs ls hW hl hf kE
      unfold X11_tells_L2 at hf
      refine lv_iload_n hx hb dX11_tells_2 rfl (lv_at hl 2 rfl) ?_
      refine lv_aload_n hx hb dX11_tells_3 rfl (lv_at hl 0 rfl) ?_
      replace hf := bd_so hf
      obtain ⟨x2, h1, hf⟩ := hf
      refine g_callVi (ci := 11) (As := []) (rest := [.int v2]) C g_us hW hl.1 (c_X11_rooms l E S  _ h1) rfl rfl rfl (in_sid _ rfl) k_RX11_82 rfl ⟨rfl, rfl⟩ ⟨Nat.le_of_ble_eq_true rfl, Nat.le_of_ble_eq_true rfl⟩ ⟨Nat.zero_le _, Nat.zero_le _⟩ _ rfl (Nat.le_of_ble_eq_true rfl) dX11_tells_4 (fun H locs hW => ?_)
      refine lv_icmp_ge (tgt := 25) hx hb dX11_tells_7 (by decide) (fun c3 => ?_) (fun c3 => ?_)
      · replace hf := ift_ hf c3
        exact kE _ _ _ _ hf hW (lv_sub hl [0, 1] rfl)
      · replace hf := iff_ hf c3
        refine lv_aload_n hx hb dX11_tells_10 rfl (lv_at hl 0 rfl) ?_
        refine g_get (ci := 11) (k := 8) (val := .ref (E.ad 67)) C g_us hW rfl rfl rfl (in_sid _ rfl) (by decide) f_RX11_29 rfl dX11_tells_11 ?_
        refine lv_iload_n hx hb dX11_tells_14 rfl (lv_at hl 2 rfl) ?_
        refine lv_iconst (v := 1) hx hb dX11_tells_15 (by decide) ?_
        refine lv_iload_n hx hb dX11_tells_16 rfl (lv_at hl 2 rfl) ?_
        refine lv_ishl hx hb dX11_tells_17 ?_
        replace hf := bd_so hf
        obtain ⟨S4, h5, hf⟩ := hf
        refine g_iast C hW h5 dX11_tells_18 (fun H locs hW => ?_)
        refine lv_iinc (v := (v2 + 1)) (lv' := [(2, .int (v2 + 1)), (0, .ref (E.ad 60)), (1, .int v1)]) hx hb dX11_tells_19 hl (k := 2) rfl rfl (by decide) rfl (fun ls hl => ?_)
        refine lv_goto (tgt := 2) hx hb dX11_tells_22 (by decide) ?_
        exact ih _ _ _ _ _ hW (lv_sub hl [1, 2, 0] rfl) hf kE
  have X11_tells_L57_c : ∀ (v1 : Int32) (v2 : Int32) (v3 : Int32) (res : St) (n : Nat) (v4 : Int32) (S : St) (H : Heap) (locs : List Loc) (ls : Array Slot), Ww E S s H locs → lv_has ls 6 [(0, .ref (E.ad 60)), (1, .int v1), (2, .int v2), (3, .int v3), (4, .int v4)] → X11_tells_L57 v1 v2 v3 n v4 S = some res → (∀ (T : St) (H : Heap) (locs : List Loc) (ls : Array Slot), some T = some res → Ww E T s H locs → lv_has ls 6 [(0, .ref (E.ad 60)), (1, .int v1), (2, .int v2), (3, .int v3)] → W p l e rm_X11_tells s m args below meth c H locs 0 0 Q (F0 m 163 ls [])) → W p l e rm_X11_tells s m args below meth c H locs 0 0 Q (F0 m 57 ls []) := by
    intro v1 v2 v3 res n
    induction n with
    | zero =>
      intro v4 S H locs ls hW hl hf
      cases hf
    | succ n ih =>
      intro v4 S H locs ls hW hl hf kE
      unfold X11_tells_L57 at hf
      refine lv_iload hx hb dX11_tells_57 (lv_at hl 4 rfl) ?_
      refine lv_aload_n hx hb dX11_tells_59 rfl (lv_at hl 0 rfl) ?_
      replace hf := bd_so hf
      obtain ⟨x17, h16, hf⟩ := hf
      refine g_callVi (ci := 11) (As := []) (rest := [.int v4]) C g_us hW hl.1 (c_X11_rooms l E S  _ h16) rfl rfl rfl (in_sid _ rfl) k_RX11_82 rfl ⟨rfl, rfl⟩ ⟨Nat.le_of_ble_eq_true rfl, Nat.le_of_ble_eq_true rfl⟩ ⟨Nat.zero_le _, Nat.zero_le _⟩ _ rfl (Nat.le_of_ble_eq_true rfl) dX11_tells_60 (fun H locs hW => ?_)
      refine lv_icmp_ge (tgt := 163) hx hb dX11_tells_63 (by decide) (fun c18 => ?_) (fun c18 => ?_)
      · replace hf := ift_ hf c18
        exact kE _ _ _ _ hf hW (lv_sub hl [0, 1, 2, 3] rfl)
      · replace hf := iff_ hf c18
        refine lv_iload hx hb dX11_tells_66 (lv_at hl 4 rfl) ?_
        refine lv_iload_n hx hb dX11_tells_68 rfl (lv_at hl 3 rfl) ?_
        replace hf := bd_so hf
        obtain ⟨x20, h21, hf⟩ := hf
        have J22 : ∀ (H : Heap) (locs : List Loc) (ls : Array Slot), Ww E S s H locs → lv_has ls 6 [(0, .ref (E.ad 60)), (1, .int v1), (2, .int v2), (3, .int v3), (4, .int v4)] → W p l e rm_X11_tells s m args below meth c H locs 0 0 Q (F0 m 130 ls [.int x20]) := by
          intro H locs ls hW hl
          refine lv_istore (lv' := [(5, .int x20), (0, .ref (E.ad 60)), (1, .int v1), (2, .int v2), (3, .int v3), (4, .int v4)]) hx hb dX11_tells_130 hl (by decide) rfl (fun ls hl => ?_)
          refine lv_aload_n hx hb dX11_tells_132 rfl (lv_at hl 1 rfl) ?_
          refine g_get (ci := 11) (k := 9) (val := .ref (E.ad 68)) C g_us hW rfl rfl rfl (in_sid _ rfl) (by decide) f_RX11_32 rfl dX11_tells_133 ?_
          refine lv_iload_n hx hb dX11_tells_136 rfl (lv_at hl 4 rfl) ?_
          refine lv_dup2_11 hx hb dX11_tells_137 rfl rfl ?_
          replace hf := bd_so hf
          obtain ⟨x23, h24, hf⟩ := hf
          refine g_iald C hW h24 dX11_tells_138 ?_
          refine lv_iload hx hb dX11_tells_139 (lv_at hl 0 rfl) ?_
          replace hf := bd_so hf
          obtain ⟨x26, h27, hf⟩ := hf
          have J28 : ∀ (H : Heap) (locs : List Loc) (ls : Array Slot), Ww E S s H locs → lv_has ls 6 [(0, .ref (E.ad 60)), (1, .int v1), (2, .int v2), (3, .int v3), (4, .int v4)] → W p l e rm_X11_tells s m args below meth c H locs 0 0 Q (F0 m 155 ls [.int x26, .int x23, .int v3, .ref (E.ad 68)]) := by
            intro H locs ls hW hl
            refine lv_ior hx hb dX11_tells_155 ?_
            replace hf := bd_so hf
            obtain ⟨S29, h30, hf⟩ := hf
            refine g_iast C hW h30 dX11_tells_156 (fun H locs hW => ?_)
            refine lv_iinc (v := (v4 + 1)) (lv' := [(4, .int (v4 + 1)), (0, .ref (E.ad 60)), (1, .int v1), (2, .int v2), (3, .int v3)]) hx hb dX11_tells_157 hl (k := 4) rfl rfl (by decide) rfl (fun ls hl => ?_)
            refine lv_goto (tgt := 57) hx hb dX11_tells_160 (by decide) ?_
            exact ih _ _ _ _ _ hW (lv_sub hl [1, 2, 3, 4, 0] rfl) hf kE
          clear hf
          have hf := h27
          clear h27
          refine lv_if_eq (tgt := 154) hx hb dX11_tells_141 (by decide) (fun c25 => ?_) (fun c25 => ?_)
          · replace hf := ift_ hf c25
            refine lv_iconst (v := 0) hx hb dX11_tells_154 (by decide) ?_
            obtain rfl := so1 hf
            exact J28 _ _ _ hW (lv_sub hl [1, 2, 3, 4, 5] rfl)
          · replace hf := iff_ hf c25
            refine lv_aload_n hx hb dX11_tells_144 rfl (lv_at hl 1 rfl) ?_
            refine g_get (ci := 11) (k := 8) (val := .ref (E.ad 67)) C g_us hW rfl rfl rfl (in_sid _ rfl) (by decide) f_RX11_29 rfl dX11_tells_145 ?_
            refine lv_iload hx hb dX11_tells_148 (lv_at hl 5 rfl) ?_
            replace hf := bd_so hf
            obtain ⟨x31, h32, hf⟩ := hf
            refine g_iald C hW h32 dX11_tells_150 ?_
            refine lv_goto (tgt := 155) hx hb dX11_tells_151 (by decide) ?_
            obtain rfl := so1 hf
            exact J28 _ _ _ hW (lv_sub hl [1, 2, 3, 4, 5] rfl)
        clear hf
        have hf := h21
        clear h21
        refine lv_icmp_eq (tgt := 129) hx hb dX11_tells_69 (by decide) (fun c19 => ?_) (fun c19 => ?_)
        · replace hf := ift_ hf c19
          refine lv_iconst (v := 0) hx hb dX11_tells_129 (by decide) ?_
          obtain rfl := so1 hf
          exact J22 _ _ _ hW (lv_sub hl [0, 1, 2, 3, 4] rfl)
        · replace hf := iff_ hf c19
          refine lv_aload_n hx hb dX11_tells_72 rfl (lv_at hl 0 rfl) ?_
          refine lv_iload hx hb dX11_tells_73 (lv_at hl 4 rfl) ?_
          replace hf := bd_so hf
          obtain ⟨x34, h33, hf⟩ := hf
          refine g_callVi (ci := 11) (As := [.int v4]) (rest := []) C g_us hW hl.1 (c_X11_isCut l E S v4 _ h33) rfl rfl rfl (in_sid _ rfl) k_RX11_137 rfl ⟨rfl, rfl⟩ ⟨Nat.le_of_ble_eq_true rfl, Nat.le_of_ble_eq_true rfl⟩ ⟨Nat.zero_le _, Nat.zero_le _⟩ _ rfl (Nat.le_of_ble_eq_true rfl) dX11_tells_75 (fun H locs hW => ?_)
          refine lv_if_ne (tgt := 129) hx hb dX11_tells_78 (by decide) (fun c35 => ?_) (fun c35 => ?_)
          · replace hf := iff_ hf c35
            refine lv_iconst (v := 0) hx hb dX11_tells_129 (by decide) ?_
            obtain rfl := so1 hf
            exact J22 _ _ _ hW (lv_sub hl [0, 1, 2, 3, 4] rfl)
          · replace hf := ift_ hf c35
            refine lv_aload_n hx hb dX11_tells_81 rfl (lv_at hl 0 rfl) ?_
            refine lv_iload_n hx hb dX11_tells_82 rfl (lv_at hl 3 rfl) ?_
            replace hf := bd_so hf
            obtain ⟨x37, h36, hf⟩ := hf
            refine g_callVi (ci := 11) (As := [.int v3]) (rest := []) C g_us hW hl.1 (c_X11_isCut l E S v3 _ h36) rfl rfl rfl (in_sid _ rfl) k_RX11_137 rfl ⟨rfl, rfl⟩ ⟨Nat.le_of_ble_eq_true rfl, Nat.le_of_ble_eq_true rfl⟩ ⟨Nat.zero_le _, Nat.zero_le _⟩ _ rfl (Nat.le_of_ble_eq_true rfl) dX11_tells_83 (fun H locs hW => ?_)
            refine lv_if_ne (tgt := 129) hx hb dX11_tells_86 (by decide) (fun c38 => ?_) (fun c38 => ?_)
            · replace hf := iff_ hf c38
              refine lv_iconst (v := 0) hx hb dX11_tells_129 (by decide) ?_
              obtain rfl := so1 hf
              exact J22 _ _ _ hW (lv_sub hl [0, 1, 2, 3, 4] rfl)
            · replace hf := ift_ hf c38
              refine lv_aload_n hx hb dX11_tells_89 rfl (lv_at hl 0 rfl) ?_
              refine lv_iload hx hb dX11_tells_90 (lv_at hl 4 rfl) ?_
              refine lv_iload_n hx hb dX11_tells_92 rfl (lv_at hl 3 rfl) ?_
              replace hf := bd_so hf
              obtain ⟨x40, h39, hf⟩ := hf
              refine g_callVi (ci := 11) (As := [.int v4, .int v3]) (rest := []) C g_us hW hl.1 (c_X11_wireOf l E S v4 v3 _ h39) rfl rfl rfl (in_sid _ rfl) k_RX11_96 rfl ⟨rfl, rfl⟩ ⟨Nat.le_of_ble_eq_true rfl, Nat.le_of_ble_eq_true rfl⟩ ⟨Nat.zero_le _, Nat.zero_le _⟩ _ rfl (Nat.le_of_ble_eq_true rfl) dX11_tells_93 (fun H locs hW => ?_)
              refine lv_if_le (tgt := 129) hx hb dX11_tells_96 (by decide) (fun c41 => ?_) (fun c41 => ?_)
              · replace hf := ift_ hf c41
                refine lv_iconst (v := 0) hx hb dX11_tells_129 (by decide) ?_
                obtain rfl := so1 hf
                exact J22 _ _ _ hW (lv_sub hl [0, 1, 2, 3, 4] rfl)
              · replace hf := iff_ hf c41
                refine lv_aload_n hx hb dX11_tells_99 rfl (lv_at hl 0 rfl) ?_
                refine g_get (ci := 11) (k := 0) (val := .ref (E.ad 61)) C g_us hW rfl rfl rfl (in_sid _ rfl) (by decide) f_RX11_7 rfl dX11_tells_100 ?_
                refine lv_sipush (v := 200) hx hb dX11_tells_103 (by decide) ?_
                refine lv_bipush (v := 64) hx hb dX11_tells_106 (by decide) ?_
                refine lv_iload_n hx hb dX11_tells_108 rfl (lv_at hl 2 rfl) ?_
                refine lv_iconst (v := 1) hx hb dX11_tells_109 (by decide) ?_
                refine lv_isub hx hb dX11_tells_110 ?_
                refine lv_imul hx hb dX11_tells_111 ?_
                refine lv_iadd hx hb dX11_tells_112 ?_
                refine lv_bipush (v := 8) hx hb dX11_tells_113 (by decide) ?_
                refine lv_iload hx hb dX11_tells_115 (lv_at hl 4 rfl) ?_
                refine lv_imul hx hb dX11_tells_117 ?_
                refine lv_iadd hx hb dX11_tells_118 ?_
                refine lv_iload_n hx hb dX11_tells_119 rfl (lv_at hl 3 rfl) ?_
                refine lv_iadd hx hb dX11_tells_120 ?_
                replace hf := bd_so hf
                obtain ⟨x42, h43, hf⟩ := hf
                refine g_iald C hW h43 dX11_tells_121 ?_
                refine lv_if_ne (tgt := 129) hx hb dX11_tells_122 (by decide) (fun c44 => ?_) (fun c44 => ?_)
                · replace hf := iff_ hf c44
                  refine lv_iconst (v := 0) hx hb dX11_tells_129 (by decide) ?_
                  obtain rfl := so1 hf
                  exact J22 _ _ _ hW (lv_sub hl [0, 1, 2, 3, 4] rfl)
                · replace hf := ift_ hf c44
                  refine lv_iconst (v := 1) hx hb dX11_tells_125 (by decide) ?_
                  refine lv_goto (tgt := 130) hx hb dX11_tells_126 (by decide) ?_
                  obtain rfl := so1 hf
                  exact J22 _ _ _ hW (lv_sub hl [0, 1, 2, 3, 4] rfl)
  have X11_tells_L34_c : ∀ (v1 : Int32) (v2 : Int32) (res : St) (n : Nat) (v3 : Int32) (S : St) (H : Heap) (locs : List Loc) (ls : Array Slot), Ww E S s H locs → lv_has ls 6 [(0, .ref (E.ad 60)), (1, .int v1), (2, .int v2), (3, .int v3)] → X11_tells_L34 v1 v2 n v3 S = some res → (∀ (T : St) (H : Heap) (locs : List Loc) (ls : Array Slot), some T = some res → Ww E T s H locs → lv_has ls 6 [(0, .ref (E.ad 60)), (1, .int v1), (2, .int v2)] → W p l e rm_X11_tells s m args below meth c H locs 0 0 Q (F0 m 169 ls [])) → W p l e rm_X11_tells s m args below meth c H locs 0 0 Q (F0 m 34 ls []) := by
    intro v1 v2 res n
    induction n with
    | zero =>
      intro v3 S H locs ls hW hl hf
      cases hf
    | succ n ih =>
      intro v3 S H locs ls hW hl hf kE
      unfold X11_tells_L34 at hf
      refine lv_iload_n hx hb dX11_tells_34 rfl (lv_at hl 3 rfl) ?_
      refine lv_aload_n hx hb dX11_tells_35 rfl (lv_at hl 0 rfl) ?_
      replace hf := bd_so hf
      obtain ⟨x10, h9, hf⟩ := hf
      refine g_callVi (ci := 11) (As := []) (rest := [.int v3]) C g_us hW hl.1 (c_X11_rooms l E S  _ h9) rfl rfl rfl (in_sid _ rfl) k_RX11_82 rfl ⟨rfl, rfl⟩ ⟨Nat.le_of_ble_eq_true rfl, Nat.le_of_ble_eq_true rfl⟩ ⟨Nat.zero_le _, Nat.zero_le _⟩ _ rfl (Nat.le_of_ble_eq_true rfl) dX11_tells_36 (fun H locs hW => ?_)
      refine lv_icmp_ge (tgt := 169) hx hb dX11_tells_39 (by decide) (fun c11 => ?_) (fun c11 => ?_)
      · replace hf := ift_ hf c11
        exact kE _ _ _ _ hf hW (lv_sub hl [0, 1, 2] rfl)
      · replace hf := iff_ hf c11
        refine lv_aload_n hx hb dX11_tells_42 rfl (lv_at hl 0 rfl) ?_
        refine g_get (ci := 11) (k := 9) (val := .ref (E.ad 68)) C g_us hW rfl rfl rfl (in_sid _ rfl) (by decide) f_RX11_32 rfl dX11_tells_43 ?_
        refine lv_iload_n hx hb dX11_tells_46 rfl (lv_at hl 3 rfl) ?_
        refine lv_aload_n hx hb dX11_tells_47 rfl (lv_at hl 0 rfl) ?_
        refine g_get (ci := 11) (k := 8) (val := .ref (E.ad 67)) C g_us hW rfl rfl rfl (in_sid _ rfl) (by decide) f_RX11_29 rfl dX11_tells_48 ?_
        refine lv_iload_n hx hb dX11_tells_51 rfl (lv_at hl 3 rfl) ?_
        replace hf := bd_so hf
        obtain ⟨x12, h13, hf⟩ := hf
        refine g_iald C hW h13 dX11_tells_52 ?_
        replace hf := bd_so hf
        obtain ⟨S14, h15, hf⟩ := hf
        refine g_iast C hW h15 dX11_tells_53 (fun H locs hW => ?_)
        refine lv_iconst (v := 0) hx hb dX11_tells_54 (by decide) ?_
        refine lv_istore (lv' := [(4, .int 0), (0, .ref (E.ad 60)), (1, .int v1), (2, .int v2), (3, .int v3)]) hx hb dX11_tells_55 hl (by decide) rfl (fun ls hl => ?_)
        replace hf := bd_so hf
        obtain ⟨S45, h46, hf⟩ := hf
        have J47 : ∀ (H : Heap) (locs : List Loc) (ls : Array Slot), Ww E S45 s H locs → lv_has ls 6 [(0, .ref (E.ad 60)), (1, .int v1), (2, .int v2), (3, .int v3)] → W p l e rm_X11_tells s m args below meth c H locs 0 0 Q (F0 m 163 ls []) := by
          intro H locs ls hW hl
          refine lv_iinc (v := (v3 + 1)) (lv' := [(3, .int (v3 + 1)), (0, .ref (E.ad 60)), (1, .int v1), (2, .int v2)]) hx hb dX11_tells_163 hl (k := 3) rfl rfl (by decide) rfl (fun ls hl => ?_)
          refine lv_goto (tgt := 34) hx hb dX11_tells_166 (by decide) ?_
          exact ih _ _ _ _ _ hW (lv_sub hl [1, 2, 3, 0] rfl) hf kE
        exact X11_tells_L57_c _ _ _ _ FU _ _ _ _ _ hW (lv_sub hl [1, 2, 3, 4, 0] rfl) h46 (fun _ H locs ls e hW hl => by cases e; exact J47 H locs ls hW hl)
  have X11_tells_L171_c : ∀ (v1 : Int32) (v2 : Int32) (res : St) (n : Nat) (v3 : Int32) (S : St) (H : Heap) (locs : List Loc) (ls : Array Slot), Ww E S s H locs → lv_has ls 6 [(0, .ref (E.ad 60)), (1, .int v1), (2, .int v2), (3, .int v3)] → X11_tells_L171 v1 v2 n v3 S = some res → (∀ (T : St) (H : Heap) (locs : List Loc) (ls : Array Slot), some T = some res → Ww E T s H locs → lv_has ls 6 [(0, .ref (E.ad 60)), (1, .int v1), (2, .int v2)] → W p l e rm_X11_tells s m args below meth c H locs 0 0 Q (F0 m 197 ls [])) → W p l e rm_X11_tells s m args below meth c H locs 0 0 Q (F0 m 171 ls []) := by
    intro v1 v2 res n
    induction n with
    | zero =>
      intro v3 S H locs ls hW hl hf
      cases hf
    | succ n ih =>
      intro v3 S H locs ls hW hl hf kE
      unfold X11_tells_L171 at hf
      refine lv_iload_n hx hb dX11_tells_171 rfl (lv_at hl 3 rfl) ?_
      refine lv_aload_n hx hb dX11_tells_172 rfl (lv_at hl 0 rfl) ?_
      replace hf := bd_so hf
      obtain ⟨x51, h50, hf⟩ := hf
      refine g_callVi (ci := 11) (As := []) (rest := [.int v3]) C g_us hW hl.1 (c_X11_rooms l E S  _ h50) rfl rfl rfl (in_sid _ rfl) k_RX11_82 rfl ⟨rfl, rfl⟩ ⟨Nat.le_of_ble_eq_true rfl, Nat.le_of_ble_eq_true rfl⟩ ⟨Nat.zero_le _, Nat.zero_le _⟩ _ rfl (Nat.le_of_ble_eq_true rfl) dX11_tells_173 (fun H locs hW => ?_)
      refine lv_icmp_ge (tgt := 197) hx hb dX11_tells_176 (by decide) (fun c52 => ?_) (fun c52 => ?_)
      · replace hf := ift_ hf c52
        exact kE _ _ _ _ hf hW (lv_sub hl [0, 1, 2] rfl)
      · replace hf := iff_ hf c52
        refine lv_aload_n hx hb dX11_tells_179 rfl (lv_at hl 0 rfl) ?_
        refine g_get (ci := 11) (k := 8) (val := .ref (E.ad 67)) C g_us hW rfl rfl rfl (in_sid _ rfl) (by decide) f_RX11_29 rfl dX11_tells_180 ?_
        refine lv_iload_n hx hb dX11_tells_183 rfl (lv_at hl 3 rfl) ?_
        refine lv_aload_n hx hb dX11_tells_184 rfl (lv_at hl 0 rfl) ?_
        refine g_get (ci := 11) (k := 9) (val := .ref (E.ad 68)) C g_us hW rfl rfl rfl (in_sid _ rfl) (by decide) f_RX11_32 rfl dX11_tells_185 ?_
        refine lv_iload_n hx hb dX11_tells_188 rfl (lv_at hl 3 rfl) ?_
        replace hf := bd_so hf
        obtain ⟨x53, h54, hf⟩ := hf
        refine g_iald C hW h54 dX11_tells_189 ?_
        replace hf := bd_so hf
        obtain ⟨S55, h56, hf⟩ := hf
        refine g_iast C hW h56 dX11_tells_190 (fun H locs hW => ?_)
        refine lv_iinc (v := (v3 + 1)) (lv' := [(3, .int (v3 + 1)), (0, .ref (E.ad 60)), (1, .int v1), (2, .int v2)]) hx hb dX11_tells_191 hl (k := 3) rfl rfl (by decide) rfl (fun ls hl => ?_)
        refine lv_goto (tgt := 171) hx hb dX11_tells_194 (by decide) ?_
        exact ih _ _ _ _ _ hW (lv_sub hl [1, 2, 3, 0] rfl) hf kE
  have X11_tells_L27_c : ∀ (v1 : Int32) (res : St) (n : Nat) (v2 : Int32) (S : St) (H : Heap) (locs : List Loc) (ls : Array Slot), Ww E S s H locs → lv_has ls 6 [(0, .ref (E.ad 60)), (1, .int v1), (2, .int v2)] → X11_tells_L27 v1 n v2 S = some res → (∀ (T : St) (H : Heap) (locs : List Loc) (ls : Array Slot), some T = some res → Ww E T s H locs → lv_has ls 6 [] → W p l e rm_X11_tells s m args below meth c H locs 0 0 Q (F0 m 203 ls [])) → W p l e rm_X11_tells s m args below meth c H locs 0 0 Q (F0 m 27 ls []) := by
    intro v1 res n
    induction n with
    | zero =>
      intro v2 S H locs ls hW hl hf
      cases hf
    | succ n ih =>
      intro v2 S H locs ls hW hl hf kE
      unfold X11_tells_L27 at hf
      refine lv_iload_n hx hb dX11_tells_27 rfl (lv_at hl 2 rfl) ?_
      refine lv_iload_n hx hb dX11_tells_28 rfl (lv_at hl 1 rfl) ?_
      refine lv_icmp_gt (tgt := 203) hx hb dX11_tells_29 (by decide) (fun c8 => ?_) (fun c8 => ?_)
      · replace hf := ift_ hf c8
        exact kE _ _ _ _ hf hW (lv_sub hl [] rfl)
      · replace hf := iff_ hf c8
        refine lv_iconst (v := 0) hx hb dX11_tells_32 (by decide) ?_
        refine lv_istore_n (lv' := [(3, .int 0), (0, .ref (E.ad 60)), (1, .int v1), (2, .int v2)]) hx hb dX11_tells_33 rfl hl (by decide) rfl (fun ls hl => ?_)
        replace hf := bd_so hf
        obtain ⟨S48, h49, hf⟩ := hf
        have J60 : ∀ (H : Heap) (locs : List Loc) (ls : Array Slot), Ww E S48 s H locs → lv_has ls 6 [(0, .ref (E.ad 60)), (1, .int v1), (2, .int v2)] → W p l e rm_X11_tells s m args below meth c H locs 0 0 Q (F0 m 169 ls []) := by
          intro H locs ls hW hl
          refine lv_iconst (v := 0) hx hb dX11_tells_169 (by decide) ?_
          refine lv_istore_n (lv' := [(3, .int 0), (0, .ref (E.ad 60)), (1, .int v1), (2, .int v2)]) hx hb dX11_tells_170 rfl hl (by decide) rfl (fun ls hl => ?_)
          replace hf := bd_so hf
          obtain ⟨S57, h58, hf⟩ := hf
          have J59 : ∀ (H : Heap) (locs : List Loc) (ls : Array Slot), Ww E S57 s H locs → lv_has ls 6 [(0, .ref (E.ad 60)), (1, .int v1), (2, .int v2)] → W p l e rm_X11_tells s m args below meth c H locs 0 0 Q (F0 m 197 ls []) := by
            intro H locs ls hW hl
            refine lv_iinc (v := (v2 + 1)) (lv' := [(2, .int (v2 + 1)), (0, .ref (E.ad 60)), (1, .int v1)]) hx hb dX11_tells_197 hl (k := 2) rfl rfl (by decide) rfl (fun ls hl => ?_)
            refine lv_goto (tgt := 27) hx hb dX11_tells_200 (by decide) ?_
            exact ih _ _ _ _ _ hW (lv_sub hl [1, 2, 0] rfl) hf kE
          exact X11_tells_L171_c _ _ _ FU _ _ _ _ _ hW (lv_sub hl [1, 2, 3, 0] rfl) h58 (fun _ H locs ls e hW hl => by cases e; exact J59 H locs ls hW hl)
        exact X11_tells_L34_c _ _ _ FU _ _ _ _ _ hW (lv_sub hl [1, 2, 3, 0] rfl) h49 (fun _ H locs ls e hW hl => by cases e; exact J60 H locs ls hW hl)
  unfold X11_tells at hf
  refine lv_iconst (v := 0) hx hb dX11_tells_0 (by decide) ?_
  refine lv_istore_n (lv' := [(2, .int 0), (0, .ref (E.ad 60)), (1, .int a1)]) hx hb dX11_tells_1 rfl hl (by decide) rfl (fun ls hl => ?_)
  replace hf := bd_so hf
  obtain ⟨S6, h7, hf⟩ := hf
  have J64 : ∀ (H : Heap) (locs : List Loc) (ls : Array Slot), Ww E S6 s H locs → lv_has ls 6 [(0, .ref (E.ad 60)), (1, .int a1)] → W p l e rm_X11_tells s m args below meth c H locs 0 0 Q (F0 m 25 ls []) := by
    intro H locs ls hW hl
    refine lv_iconst (v := 1) hx hb dX11_tells_25 (by decide) ?_
    refine lv_istore_n (lv' := [(2, .int 1), (0, .ref (E.ad 60)), (1, .int a1)]) hx hb dX11_tells_26 rfl hl (by decide) rfl (fun ls hl => ?_)
    replace hf := bd_so hf
    obtain ⟨S61, h62, hf⟩ := hf
    have J63 : ∀ (H : Heap) (locs : List Loc) (ls : Array Slot), Ww E S61 s H locs → lv_has ls 6 [] → W p l e rm_X11_tells s m args below meth c H locs 0 0 Q (F0 m 203 ls []) := by
      intro H locs ls hW hl
      obtain rfl := so1 hf
      exact kR _ _ _ _ hW dX11_tells_203
    exact X11_tells_L27_c _ _ FU _ _ _ _ _ hW (lv_sub hl [1, 2, 0] rfl) h62 (fun _ H locs ls e hW hl => by cases e; exact J63 H locs ls hW hl)
  exact X11_tells_L2_c _ _ FU _ _ _ _ _ hW (lv_sub hl [1, 2, 0] rfl) h7 (fun _ H locs ls e hW hl => by cases e; exact J64 H locs ls hW hl)

abbrev rm_X11_knows : Room := { frames := 4, cells := 0, slots := 0, locals := 128 }
set_option maxHeartbeats 4000000 in
set_option maxRecDepth 100000 in
theorem c_X11_knows (l : Launch) (E : En) (S : St) (a1 : Int32) (a2 : Int32) (r : Int32) (S1 : St) (hf : X11_knows S a1 a2 = some (r, S1)) : Mi l E yX11_knows cX11_knows 3 (some .int) rm_X11_knows [.ref (E.ad 60), .int a1, .int a2] S r S1 := by
  refine g_startI (cc := cX11_knows) (n := 3) (by decide) (Nat.le_of_ble_eq_true rfl) ?_
  intro p e s m args below meth c Q H locs C kR hW ls hl
  obtain ⟨⟨hx, hb, hml, hown, hts⟩, hK, hT⟩ := id C
  have hl : lv_has ls 3 [(0, .ref (E.ad 60)), (1, .int a1), (2, .int a2)] := hl
  unfold X11_knows at hf
  refine lv_aload_n hx hb dX11_knows_0 rfl (lv_at hl 0 rfl) ?_
  refine lv_iload_n hx hb dX11_knows_1 rfl (lv_at hl 1 rfl) ?_
  replace hf := bd_so hf
  obtain ⟨x2, h1, hf⟩ := hf
  refine g_callVi (ci := 11) (As := [.int a1]) (rest := []) C g_us hW hl.1 (c_X11_isRoom l E S a1 _ h1) rfl rfl rfl (in_sid _ rfl) k_RX11_86 rfl ⟨rfl, rfl⟩ ⟨Nat.le_of_ble_eq_true rfl, Nat.le_of_ble_eq_true rfl⟩ ⟨Nat.zero_le _, Nat.zero_le _⟩ _ rfl (Nat.le_of_ble_eq_true rfl) dX11_knows_2 (fun H locs hW => ?_)
  refine lv_if_eq (tgt := 20) hx hb dX11_knows_5 (by decide) (fun c3 => ?_) (fun c3 => ?_)
  · replace hf := ift_ hf c3
    refine lv_iconst (v := (-1)) hx hb dX11_knows_20 (by decide) ?_
    obtain ⟨rfl, rfl⟩ := so2 hf
    exact kR _ _ _ _ hW dX11_knows_21
  · replace hf := iff_ hf c3
    refine lv_iload_n hx hb dX11_knows_8 rfl (lv_at hl 2 rfl) ?_
    refine lv_i2l (v := (a2 : Int32).toInt64) hx hb dX11_knows_9 rfl ?_
    refine lv_lconst (v := 0) hx hb dX11_knows_10 (by decide) ?_
    refine lv_ldc2 hx hb hown (hts _ (g_us _ q_RX11_181)) dX11_knows_11 ?_
    replace hf := bd_so hf
    obtain ⟨x5, h4, hf⟩ := hf
    refine g_callSi (As := [.long ((a2 : Int32).toInt64), .long 0, .long 7]) (rest := []) C g_us hW hl.1 (c_X11_in l E S ((a2 : Int32).toInt64) 0 7 _ h4) k_RX11_72 rfl ⟨rfl, rfl⟩ ⟨Nat.le_of_ble_eq_true rfl, Nat.le_of_ble_eq_true rfl⟩ ⟨Nat.zero_le _, Nat.zero_le _⟩ _ rfl (Nat.le_of_ble_eq_true rfl) dX11_knows_14 (fun H locs hW => ?_)
    refine lv_if_ne (tgt := 22) hx hb dX11_knows_17 (by decide) (fun c6 => ?_) (fun c6 => ?_)
    · replace hf := iff_ hf c6
      refine lv_aload_n hx hb dX11_knows_22 rfl (lv_at hl 0 rfl) ?_
      refine lv_iload_n hx hb dX11_knows_23 rfl (lv_at hl 2 rfl) ?_
      replace hf := bd_so hf
      obtain ⟨S8, h7, hf⟩ := hf
      refine g_callVv (ci := 11) (As := [.int a2]) (rest := []) C g_us hW hl.1 (c_X11_tells l E S a2 _ h7) rfl rfl rfl (in_sid _ rfl) k_RX11_183 rfl ⟨rfl, rfl⟩ ⟨Nat.le_of_ble_eq_true rfl, Nat.le_of_ble_eq_true rfl⟩ ⟨Nat.zero_le _, Nat.zero_le _⟩ _ rfl (Nat.le_of_ble_eq_true rfl) dX11_knows_24 (fun H locs hW => ?_)
      refine lv_aload_n hx hb dX11_knows_27 rfl (lv_at hl 0 rfl) ?_
      refine g_get (ci := 11) (k := 8) (val := .ref (E.ad 67)) C g_us hW rfl rfl rfl (in_sid _ rfl) (by decide) f_RX11_29 rfl dX11_knows_28 ?_
      refine lv_iload_n hx hb dX11_knows_31 rfl (lv_at hl 1 rfl) ?_
      replace hf := bd_so hf
      obtain ⟨x9, h10, hf⟩ := hf
      refine g_iald C hW h10 dX11_knows_32 ?_
      obtain ⟨rfl, rfl⟩ := so2 hf
      exact kR _ _ _ _ hW dX11_knows_33
    · replace hf := ift_ hf c6
      refine lv_iconst (v := (-1)) hx hb dX11_knows_20 (by decide) ?_
      obtain ⟨rfl, rfl⟩ := so2 hf
      exact kR _ _ _ _ hW dX11_knows_21

abbrev rm_X11_goes : Room := { frames := 4, cells := 0, slots := 0, locals := 128 }
set_option maxHeartbeats 4000000 in
set_option maxRecDepth 100000 in
theorem c_X11_goes (l : Launch) (E : En) (S : St) (a1 : Int32) (a2 : Int32) (r : Int32) (S1 : St) (hf : X11_goes S a1 a2 = some (r, S1)) : Mi l E yX11_goes cX11_goes 7 (some .int) rm_X11_goes [.ref (E.ad 60), .int a1, .int a2] S r S1 := by
  refine g_startI (cc := cX11_goes) (n := 7) (by decide) (Nat.le_of_ble_eq_true rfl) ?_
  intro p e s m args below meth c Q H locs C kR hW ls hl
  obtain ⟨⟨hx, hb, hml, hown, hts⟩, hK, hT⟩ := id C
  have hl : lv_has ls 7 [(0, .ref (E.ad 60)), (1, .int a1), (2, .int a2)] := hl
  have X11_goes_L36_c : ∀ (S : St) (v1 : Int32) (res : Int32 × Int32) (n : Nat) (v3 : Int32) (v4 : Int32) (v5 : Int32) (H : Heap) (locs : List Loc) (ls : Array Slot), Ww E S s H locs → lv_has ls 7 [(0, .ref (E.ad 60)), (1, .int v1), (3, .int v3), (4, .int v4), (5, .int v5)] → X11_goes_L36 S v1 n v3 v4 v5 = some res → (∀ (w3 : Int32) (w4 : Int32) (H : Heap) (locs : List Loc) (ls : Array Slot), some (w3, w4) = some res → Ww E S s H locs → lv_has ls 7 [(0, .ref (E.ad 60)), (1, .int v1), (3, .int w3), (4, .int w4)] → W p l e rm_X11_goes s m args below meth c H locs 0 0 Q (F0 m 92 ls [])) → W p l e rm_X11_goes s m args below meth c H locs 0 0 Q (F0 m 36 ls []) := by
    intro S v1 res n
    induction n with
    | zero =>
      intro v3 v4 v5 H locs ls hW hl hf
      cases hf
    | succ n ih =>
      intro v3 v4 v5 H locs ls hW hl hf kE
      unfold X11_goes_L36 at hf
      refine lv_iload hx hb dX11_goes_36 (lv_at hl 4 rfl) ?_
      refine lv_aload_n hx hb dX11_goes_38 rfl (lv_at hl 0 rfl) ?_
      replace hf := bd_so hf
      obtain ⟨x10, h9, hf⟩ := hf
      refine g_callVi (ci := 11) (As := []) (rest := [.int v5]) C g_us hW hl.1 (c_X11_rooms l E S  _ h9) rfl rfl rfl (in_sid _ rfl) k_RX11_82 rfl ⟨rfl, rfl⟩ ⟨Nat.le_of_ble_eq_true rfl, Nat.le_of_ble_eq_true rfl⟩ ⟨Nat.zero_le _, Nat.zero_le _⟩ _ rfl (Nat.le_of_ble_eq_true rfl) dX11_goes_39 (fun H locs hW => ?_)
      refine lv_icmp_ge (tgt := 92) hx hb dX11_goes_42 (by decide) (fun c11 => ?_) (fun c11 => ?_)
      · replace hf := ift_ hf c11
        exact kE _ _ _ _ _ hf hW (lv_sub hl [0, 1, 2, 3] rfl)
      · replace hf := iff_ hf c11
        refine lv_aload_n hx hb dX11_goes_45 rfl (lv_at hl 0 rfl) ?_
        refine lv_iload hx hb dX11_goes_46 (lv_at hl 4 rfl) ?_
        replace hf := bd_so hf
        obtain ⟨x13, h12, hf⟩ := hf
        refine g_callVi (ci := 11) (As := [.int v5]) (rest := []) C g_us hW hl.1 (c_X11_isCut l E S v5 _ h12) rfl rfl rfl (in_sid _ rfl) k_RX11_137 rfl ⟨rfl, rfl⟩ ⟨Nat.le_of_ble_eq_true rfl, Nat.le_of_ble_eq_true rfl⟩ ⟨Nat.zero_le _, Nat.zero_le _⟩ _ rfl (Nat.le_of_ble_eq_true rfl) dX11_goes_48 (fun H locs hW => ?_)
        replace hf := bd_so hf
        obtain ⟨⟨x15, x16⟩, h17, hf⟩ := hf
        dsimp only at hf
        have J18 : ∀ (H : Heap) (locs : List Loc) (ls : Array Slot), Ww E S s H locs → lv_has ls 7 [(0, .ref (E.ad 60)), (1, .int v1), (3, .int x15), (4, .int x16), (5, .int v5)] → W p l e rm_X11_goes s m args below meth c H locs 0 0 Q (F0 m 86 ls []) := by
          intro H locs ls hW hl
          refine lv_iinc (v := (v5 + 1)) (lv' := [(5, .int (v5 + 1)), (0, .ref (E.ad 60)), (1, .int v1), (3, .int x15), (4, .int x16)]) hx hb dX11_goes_86 hl (k := 4) rfl rfl (by decide) rfl (fun ls hl => ?_)
          refine lv_goto (tgt := 36) hx hb dX11_goes_89 (by decide) ?_
          exact ih _ _ _ _ _ _ hW (lv_sub hl [1, 2, 3, 4, 0] rfl) hf kE
        clear hf
        have hf := h17
        clear h17
        refine lv_if_ne (tgt := 86) hx hb dX11_goes_51 (by decide) (fun c14 => ?_) (fun c14 => ?_)
        · replace hf := iff_ hf c14
          obtain ⟨rfl, rfl⟩ := so2 hf
          exact J18 _ _ _ hW (lv_sub hl [0, 1, 2, 3, 4] rfl)
        · replace hf := ift_ hf c14
          refine lv_iload hx hb dX11_goes_54 (lv_at hl 3 rfl) ?_
          refine lv_iconst (v := 1) hx hb dX11_goes_56 (by decide) ?_
          refine lv_iload hx hb dX11_goes_57 (lv_at hl 4 rfl) ?_
          refine lv_ishl hx hb dX11_goes_59 ?_
          refine lv_ior hx hb dX11_goes_60 ?_
          refine lv_istore (lv' := [(4, .int (v4 ||| (1 <<< (v5 &&& 31)))), (0, .ref (E.ad 60)), (1, .int v1), (3, .int v3), (5, .int v5)]) hx hb dX11_goes_61 hl (by decide) rfl (fun ls hl => ?_)
          refine lv_aload_n hx hb dX11_goes_63 rfl (lv_at hl 1 rfl) ?_
          refine lv_iload hx hb dX11_goes_64 (lv_at hl 4 rfl) ?_
          refine lv_iconst (v := 5) hx hb dX11_goes_66 (by decide) ?_
          replace hf := bd_so hf
          obtain ⟨x20, h19, hf⟩ := hf
          refine g_callVi (ci := 11) (As := [.int v5, .int 5]) (rest := []) C g_us hW hl.1 (c_X11_of l E S v5 5 _ h19) rfl rfl rfl (in_sid _ rfl) k_RX11_76 rfl ⟨rfl, rfl⟩ ⟨Nat.le_of_ble_eq_true rfl, Nat.le_of_ble_eq_true rfl⟩ ⟨Nat.zero_le _, Nat.zero_le _⟩ _ rfl (Nat.le_of_ble_eq_true rfl) dX11_goes_67 (fun H locs hW => ?_)
          refine lv_iload_n hx hb dX11_goes_70 rfl (lv_at hl 3 rfl) ?_
          replace hf := bd_so hf
          obtain ⟨x22, h23, hf⟩ := hf
          have J24 : ∀ (H : Heap) (locs : List Loc) (ls : Array Slot), Ww E S s H locs → lv_has ls 7 [(0, .ref (E.ad 60)), (1, .int v1), (4, .int (v4 ||| (1 <<< (v5 &&& 31)))), (5, .int v5)] → W p l e rm_X11_goes s m args below meth c H locs 0 0 Q (F0 m 85 ls [.int x22]) := by
            intro H locs ls hW hl
            refine lv_istore_n (lv' := [(3, .int x22), (0, .ref (E.ad 60)), (1, .int v1), (4, .int (v4 ||| (1 <<< (v5 &&& 31)))), (5, .int v5)]) hx hb dX11_goes_85 rfl hl (by decide) rfl (fun ls hl => ?_)
            obtain ⟨rfl, rfl⟩ := so2 hf
            exact J18 _ _ _ hW (lv_sub hl [1, 2, 0, 3, 4] rfl)
          clear hf
          have hf := h23
          clear h23
          refine lv_icmp_ge (tgt := 84) hx hb dX11_goes_71 (by decide) (fun c21 => ?_) (fun c21 => ?_)
          · replace hf := ift_ hf c21
            refine lv_iload_n hx hb dX11_goes_84 rfl (lv_at hl 3 rfl) ?_
            obtain rfl := so1 hf
            exact J24 _ _ _ hW (lv_sub hl [1, 2, 0, 4] rfl)
          · replace hf := iff_ hf c21
            refine lv_aload_n hx hb dX11_goes_74 rfl (lv_at hl 1 rfl) ?_
            refine lv_iload hx hb dX11_goes_75 (lv_at hl 4 rfl) ?_
            refine lv_iconst (v := 5) hx hb dX11_goes_77 (by decide) ?_
            replace hf := bd_so hf
            obtain ⟨x26, h25, hf⟩ := hf
            refine g_callVi (ci := 11) (As := [.int v5, .int 5]) (rest := []) C g_us hW hl.1 (c_X11_of l E S v5 5 _ h25) rfl rfl rfl (in_sid _ rfl) k_RX11_76 rfl ⟨rfl, rfl⟩ ⟨Nat.le_of_ble_eq_true rfl, Nat.le_of_ble_eq_true rfl⟩ ⟨Nat.zero_le _, Nat.zero_le _⟩ _ rfl (Nat.le_of_ble_eq_true rfl) dX11_goes_78 (fun H locs hW => ?_)
            refine lv_goto (tgt := 85) hx hb dX11_goes_81 (by decide) ?_
            obtain rfl := so1 hf
            exact J24 _ _ _ hW (lv_sub hl [1, 2, 0, 4] rfl)
  have X11_goes_L123_c : ∀ (S : St) (v3 : Int32) (res : Int32) (n : Nat) (v5 : Int32) (v6 : Int32) (H : Heap) (locs : List Loc) (ls : Array Slot), Ww E S s H locs → lv_has ls 7 [(0, .ref (E.ad 60)), (3, .int v3), (5, .int v5), (6, .int v6)] → X11_goes_L123 S v3 n v5 v6 = some res → (∀ (w5 : Int32) (H : Heap) (locs : List Loc) (ls : Array Slot), some w5 = some res → Ww E S s H locs → lv_has ls 7 [(5, .int w5)] → W p l e rm_X11_goes s m args below meth c H locs 0 0 Q (F0 m 177 ls [])) → W p l e rm_X11_goes s m args below meth c H locs 0 0 Q (F0 m 123 ls []) := by
    intro S v3 res n
    induction n with
    | zero =>
      intro v5 v6 H locs ls hW hl hf
      cases hf
    | succ n ih =>
      intro v5 v6 H locs ls hW hl hf kE
      unfold X11_goes_L123 at hf
      refine lv_iload hx hb dX11_goes_123 (lv_at hl 3 rfl) ?_
      refine lv_aload_n hx hb dX11_goes_125 rfl (lv_at hl 0 rfl) ?_
      refine g_get (ci := 11) (k := 0) (val := .ref (E.ad 61)) C g_us hW rfl rfl rfl (in_sid _ rfl) (by decide) f_RX11_7 rfl dX11_goes_126 ?_
      refine lv_sipush (v := 130) hx hb dX11_goes_129 (by decide) ?_
      replace hf := bd_so hf
      obtain ⟨x36, h37, hf⟩ := hf
      refine g_iald C hW h37 dX11_goes_132 ?_
      refine lv_icmp_ge (tgt := 177) hx hb dX11_goes_133 (by decide) (fun c38 => ?_) (fun c38 => ?_)
      · replace hf := ift_ hf c38
        exact kE _ _ _ _ hf hW (lv_sub hl [2] rfl)
      · replace hf := iff_ hf c38
        refine lv_aload_n hx hb dX11_goes_136 rfl (lv_at hl 0 rfl) ?_
        refine g_get (ci := 11) (k := 0) (val := .ref (E.ad 61)) C g_us hW rfl rfl rfl (in_sid _ rfl) (by decide) f_RX11_7 rfl dX11_goes_137 ?_
        refine lv_sipush (v := 136) hx hb dX11_goes_140 (by decide) ?_
        refine lv_iload hx hb dX11_goes_143 (lv_at hl 3 rfl) ?_
        refine lv_iadd hx hb dX11_goes_145 ?_
        replace hf := bd_so hf
        obtain ⟨x39, h40, hf⟩ := hf
        refine g_iald C hW h40 dX11_goes_146 ?_
        refine lv_bipush (v := 10) hx hb dX11_goes_147 (by decide) ?_
        replace hf := bd_so hf
        obtain ⟨x42, h43, hf⟩ := hf
        have J44 : ∀ (H : Heap) (locs : List Loc) (ls : Array Slot), Ww E S s H locs → lv_has ls 7 [(0, .ref (E.ad 60)), (3, .int v3), (6, .int v6)] → W p l e rm_X11_goes s m args below meth c H locs 0 0 Q (F0 m 169 ls [.int x42]) := by
          intro H locs ls hW hl
          refine lv_istore (lv' := [(5, .int x42), (0, .ref (E.ad 60)), (3, .int v3), (6, .int v6)]) hx hb dX11_goes_169 hl (by decide) rfl (fun ls hl => ?_)
          refine lv_iinc (v := (v6 + 1)) (lv' := [(6, .int (v6 + 1)), (5, .int x42), (0, .ref (E.ad 60)), (3, .int v3)]) hx hb dX11_goes_171 hl (k := 3) rfl rfl (by decide) rfl (fun ls hl => ?_)
          refine lv_goto (tgt := 123) hx hb dX11_goes_174 (by decide) ?_
          exact ih _ _ _ _ _ hW (lv_sub hl [2, 3, 1, 0] rfl) hf kE
        clear hf
        have hf := h43
        clear h43
        refine lv_icmp_lt (tgt := 167) hx hb dX11_goes_149 (by decide) (fun c41 => ?_) (fun c41 => ?_)
        · replace hf := ift_ hf c41
          refine lv_iload hx hb dX11_goes_167 (lv_at hl 2 rfl) ?_
          obtain rfl := so1 hf
          exact J44 _ _ _ hW (lv_sub hl [0, 1, 3] rfl)
        · replace hf := iff_ hf c41
          refine lv_iload hx hb dX11_goes_152 (lv_at hl 3 rfl) ?_
          refine lv_iconst (v := 1) hx hb dX11_goes_154 (by decide) ?_
          refine lv_iadd hx hb dX11_goes_155 ?_
          refine lv_iload_n hx hb dX11_goes_156 rfl (lv_at hl 1 rfl) ?_
          refine lv_icmp_gt (tgt := 167) hx hb dX11_goes_157 (by decide) (fun c45 => ?_) (fun c45 => ?_)
          · replace hf := ift_ hf c45
            refine lv_iload hx hb dX11_goes_167 (lv_at hl 2 rfl) ?_
            obtain rfl := so1 hf
            exact J44 _ _ _ hW (lv_sub hl [0, 1, 3] rfl)
          · replace hf := iff_ hf c45
            refine lv_iload hx hb dX11_goes_160 (lv_at hl 3 rfl) ?_
            refine lv_iconst (v := 1) hx hb dX11_goes_162 (by decide) ?_
            refine lv_iadd hx hb dX11_goes_163 ?_
            refine lv_goto (tgt := 169) hx hb dX11_goes_164 (by decide) ?_
            obtain rfl := so1 hf
            exact J44 _ _ _ hW (lv_sub hl [0, 1, 3] rfl)
  unfold X11_goes at hf
  refine lv_aload_n hx hb dX11_goes_0 rfl (lv_at hl 0 rfl) ?_
  refine lv_iload_n hx hb dX11_goes_1 rfl (lv_at hl 1 rfl) ?_
  replace hf := bd_so hf
  obtain ⟨x2, h1, hf⟩ := hf
  refine g_callVi (ci := 11) (As := [.int a1]) (rest := []) C g_us hW hl.1 (c_X11_isRoom l E S a1 _ h1) rfl rfl rfl (in_sid _ rfl) k_RX11_86 rfl ⟨rfl, rfl⟩ ⟨Nat.le_of_ble_eq_true rfl, Nat.le_of_ble_eq_true rfl⟩ ⟨Nat.zero_le _, Nat.zero_le _⟩ _ rfl (Nat.le_of_ble_eq_true rfl) dX11_goes_2 (fun H locs hW => ?_)
  refine lv_if_eq (tgt := 20) hx hb dX11_goes_5 (by decide) (fun c3 => ?_) (fun c3 => ?_)
  · replace hf := ift_ hf c3
    refine lv_iconst (v := (-1)) hx hb dX11_goes_20 (by decide) ?_
    obtain ⟨rfl, rfl⟩ := so2 hf
    exact kR _ _ _ _ hW dX11_goes_21
  · replace hf := iff_ hf c3
    refine lv_iload_n hx hb dX11_goes_8 rfl (lv_at hl 2 rfl) ?_
    refine lv_i2l (v := (a2 : Int32).toInt64) hx hb dX11_goes_9 rfl ?_
    refine lv_lconst (v := 0) hx hb dX11_goes_10 (by decide) ?_
    refine lv_ldc2 hx hb hown (hts _ (g_us _ q_RX11_181)) dX11_goes_11 ?_
    replace hf := bd_so hf
    obtain ⟨x5, h4, hf⟩ := hf
    refine g_callSi (As := [.long ((a2 : Int32).toInt64), .long 0, .long 7]) (rest := []) C g_us hW hl.1 (c_X11_in l E S ((a2 : Int32).toInt64) 0 7 _ h4) k_RX11_72 rfl ⟨rfl, rfl⟩ ⟨Nat.le_of_ble_eq_true rfl, Nat.le_of_ble_eq_true rfl⟩ ⟨Nat.zero_le _, Nat.zero_le _⟩ _ rfl (Nat.le_of_ble_eq_true rfl) dX11_goes_14 (fun H locs hW => ?_)
    refine lv_if_ne (tgt := 22) hx hb dX11_goes_17 (by decide) (fun c6 => ?_) (fun c6 => ?_)
    · replace hf := iff_ hf c6
      refine lv_aload_n hx hb dX11_goes_22 rfl (lv_at hl 0 rfl) ?_
      refine lv_iload_n hx hb dX11_goes_23 rfl (lv_at hl 2 rfl) ?_
      replace hf := bd_so hf
      obtain ⟨S8, h7, hf⟩ := hf
      refine g_callVv (ci := 11) (As := [.int a2]) (rest := []) C g_us hW hl.1 (c_X11_tells l E S a2 _ h7) rfl rfl rfl (in_sid _ rfl) k_RX11_183 rfl ⟨rfl, rfl⟩ ⟨Nat.le_of_ble_eq_true rfl, Nat.le_of_ble_eq_true rfl⟩ ⟨Nat.zero_le _, Nat.zero_le _⟩ _ rfl (Nat.le_of_ble_eq_true rfl) dX11_goes_24 (fun H locs hW => ?_)
      refine lv_bipush (v := 64) hx hb dX11_goes_27 (by decide) ?_
      refine lv_istore_n (lv' := [(3, .int 64), (0, .ref (E.ad 60)), (1, .int a1), (2, .int a2)]) hx hb dX11_goes_29 rfl hl (by decide) rfl (fun ls hl => ?_)
      refine lv_iconst (v := 0) hx hb dX11_goes_30 (by decide) ?_
      refine lv_istore (lv' := [(4, .int 0), (3, .int 64), (0, .ref (E.ad 60)), (1, .int a1), (2, .int a2)]) hx hb dX11_goes_31 hl (by decide) rfl (fun ls hl => ?_)
      refine lv_iconst (v := 0) hx hb dX11_goes_33 (by decide) ?_
      refine lv_istore (lv' := [(5, .int 0), (4, .int 0), (3, .int 64), (0, .ref (E.ad 60)), (1, .int a1), (2, .int a2)]) hx hb dX11_goes_34 hl (by decide) rfl (fun ls hl => ?_)
      replace hf := bd_so hf
      obtain ⟨⟨x27, x28⟩, h29, hf⟩ := hf
      dsimp only at hf
      have J49 : ∀ (H : Heap) (locs : List Loc) (ls : Array Slot), Ww E S8 s H locs → lv_has ls 7 [(0, .ref (E.ad 60)), (1, .int a1), (3, .int x27), (4, .int x28)] → W p l e rm_X11_goes s m args below meth c H locs 0 0 Q (F0 m 92 ls []) := by
        intro H locs ls hW hl
        refine lv_aload_n hx hb dX11_goes_92 rfl (lv_at hl 0 rfl) ?_
        refine lv_iload_n hx hb dX11_goes_93 rfl (lv_at hl 1 rfl) ?_
        replace hf := bd_so hf
        obtain ⟨x31, h30, hf⟩ := hf
        refine g_callVi (ci := 11) (As := [.int a1]) (rest := []) C g_us hW hl.1 (c_X11_isCut l E S8 a1 _ h30) rfl rfl rfl (in_sid _ rfl) k_RX11_137 rfl ⟨rfl, rfl⟩ ⟨Nat.le_of_ble_eq_true rfl, Nat.le_of_ble_eq_true rfl⟩ ⟨Nat.zero_le _, Nat.zero_le _⟩ _ rfl (Nat.le_of_ble_eq_true rfl) dX11_goes_94 (fun H locs hW => ?_)
        refine lv_if_ne (tgt := 114) hx hb dX11_goes_97 (by decide) (fun c32 => ?_) (fun c32 => ?_)
        · replace hf := iff_ hf c32
          refine lv_bipush (v := (-4)) hx hb dX11_goes_114 (by decide) ?_
          obtain ⟨rfl, rfl⟩ := so2 hf
          exact kR _ _ _ _ hW dX11_goes_116
        · replace hf := ift_ hf c32
          refine lv_aload_n hx hb dX11_goes_100 rfl (lv_at hl 0 rfl) ?_
          refine g_get (ci := 11) (k := 8) (val := .ref (E.ad 67)) C g_us hW rfl rfl rfl (in_sid _ rfl) (by decide) f_RX11_29 rfl dX11_goes_101 ?_
          refine lv_iload_n hx hb dX11_goes_104 rfl (lv_at hl 1 rfl) ?_
          replace hf := bd_so hf
          obtain ⟨x33, h34, hf⟩ := hf
          refine g_iald C hW h34 dX11_goes_105 ?_
          refine lv_iload hx hb dX11_goes_106 (lv_at hl 3 rfl) ?_
          refine lv_iand hx hb dX11_goes_108 ?_
          refine lv_iload hx hb dX11_goes_109 (lv_at hl 3 rfl) ?_
          refine lv_icmp_eq (tgt := 117) hx hb dX11_goes_111 (by decide) (fun c35 => ?_) (fun c35 => ?_)
          · replace hf := ift_ hf c35
            refine lv_iconst (v := 0) hx hb dX11_goes_117 (by decide) ?_
            refine lv_istore (lv' := [(5, .int 0), (0, .ref (E.ad 60)), (1, .int a1), (3, .int x27), (4, .int x28)]) hx hb dX11_goes_118 hl (by decide) rfl (fun ls hl => ?_)
            refine lv_iconst (v := 0) hx hb dX11_goes_120 (by decide) ?_
            refine lv_istore (lv' := [(6, .int 0), (5, .int 0), (0, .ref (E.ad 60)), (1, .int a1), (3, .int x27), (4, .int x28)]) hx hb dX11_goes_121 hl (by decide) rfl (fun ls hl => ?_)
            replace hf := bd_so hf
            obtain ⟨x46, h47, hf⟩ := hf
            have J48 : ∀ (H : Heap) (locs : List Loc) (ls : Array Slot), Ww E S8 s H locs → lv_has ls 7 [(5, .int x46)] → W p l e rm_X11_goes s m args below meth c H locs 0 0 Q (F0 m 177 ls []) := by
              intro H locs ls hW hl
              refine lv_iload hx hb dX11_goes_177 (lv_at hl 0 rfl) ?_
              obtain ⟨rfl, rfl⟩ := so2 hf
              exact kR _ _ _ _ hW dX11_goes_179
            exact X11_goes_L123_c _ _ _ FU _ _ _ _ _ hW (lv_sub hl [2, 4, 1, 0] rfl) h47 (fun _ H locs ls e hW hl => by cases e; exact J48 H locs ls hW hl)
          · replace hf := iff_ hf c35
            refine lv_bipush (v := (-4)) hx hb dX11_goes_114 (by decide) ?_
            obtain ⟨rfl, rfl⟩ := so2 hf
            exact kR _ _ _ _ hW dX11_goes_116
      exact X11_goes_L36_c _ _ _ FU _ _ _ _ _ _ hW (lv_sub hl [3, 4, 2, 1, 0] rfl) h29 (fun _ _ H locs ls e hW hl => by cases e; exact J49 H locs ls hW hl)
    · replace hf := ift_ hf c6
      refine lv_iconst (v := (-1)) hx hb dX11_goes_20 (by decide) ?_
      obtain ⟨rfl, rfl⟩ := so2 hf
      exact kR _ _ _ _ hW dX11_goes_21

abbrev rm_X11_loss : Room := { frames := 2, cells := 0, slots := 0, locals := 85 }
set_option maxHeartbeats 4000000 in
set_option maxRecDepth 100000 in
theorem c_X11_loss (l : Launch) (E : En) (S : St) (a1 : Int64) (r : Int32) (S1 : St) (hf : X11_loss S a1 = some (r, S1)) : Mi l E yX11_loss cX11_loss 3 (some .int) rm_X11_loss [.ref (E.ad 60), .long a1] S r S1 := by
  refine g_startI (cc := cX11_loss) (n := 3) (by decide) (Nat.le_of_ble_eq_true rfl) ?_
  intro p e s m args below meth c Q H locs C kR hW ls hl
  obtain ⟨⟨hx, hb, hml, hown, hts⟩, hK, hT⟩ := id C
  have hl : lv_has ls 3 [(0, .ref (E.ad 60)), (1, .long a1)] := hl
  unfold X11_loss at hf
  refine lv_lload_n hx hb dX11_loss_0 rfl (lv_at hl 1 rfl) ?_
  refine lv_lconst (v := 0) hx hb dX11_loss_1 (by decide) ?_
  refine lv_ldc2 hx hb hown (hts _ (g_us _ q_RX11_187)) dX11_loss_2 ?_
  replace hf := bd_so hf
  obtain ⟨x2, h1, hf⟩ := hf
  refine g_callSi (As := [.long a1, .long 0, .long 281474976710655]) (rest := []) C g_us hW hl.1 (c_X11_in l E S a1 0 281474976710655 _ h1) k_RX11_72 rfl ⟨rfl, rfl⟩ ⟨Nat.le_of_ble_eq_true rfl, Nat.le_of_ble_eq_true rfl⟩ ⟨Nat.zero_le _, Nat.zero_le _⟩ _ rfl (Nat.le_of_ble_eq_true rfl) dX11_loss_5 (fun H locs hW => ?_)
  refine lv_if_ne (tgt := 13) hx hb dX11_loss_8 (by decide) (fun c3 => ?_) (fun c3 => ?_)
  · replace hf := iff_ hf c3
    refine lv_aload_n hx hb dX11_loss_13 rfl (lv_at hl 0 rfl) ?_
    refine g_get (ci := 11) (k := 0) (val := .ref (E.ad 61)) C g_us hW rfl rfl rfl (in_sid _ rfl) (by decide) f_RX11_7 rfl dX11_loss_14 ?_
    refine lv_sipush (v := 132) hx hb dX11_loss_17 (by decide) ?_
    replace hf := bd_so hf
    obtain ⟨x4, h5, hf⟩ := hf
    refine g_iald C hW h5 dX11_loss_20 ?_
    refine lv_bipush (v := 8) hx hb dX11_loss_21 (by decide) ?_
    refine lv_icmp_ne (tgt := 29) hx hb dX11_loss_23 (by decide) (fun c6 => ?_) (fun c6 => ?_)
    · replace hf := iff_ hf c6
      refine lv_aload_n hx hb dX11_loss_29 rfl (lv_at hl 0 rfl) ?_
      refine g_get (ci := 11) (k := 1) (val := .ref (E.ad 62)) C g_us hW rfl rfl rfl (in_sid _ rfl) (by decide) f_RX11_13 rfl dX11_loss_30 ?_
      refine lv_aload_n hx hb dX11_loss_33 rfl (lv_at hl 0 rfl) ?_
      refine g_get (ci := 11) (k := 0) (val := .ref (E.ad 61)) C g_us hW rfl rfl rfl (in_sid _ rfl) (by decide) f_RX11_7 rfl dX11_loss_34 ?_
      refine lv_sipush (v := 132) hx hb dX11_loss_37 (by decide) ?_
      replace hf := bd_so hf
      obtain ⟨x7, h8, hf⟩ := hf
      refine g_iald C hW h8 dX11_loss_40 ?_
      refine lv_lload_n hx hb dX11_loss_41 rfl (lv_at hl 1 rfl) ?_
      replace hf := bd_so hf
      obtain ⟨S9, h10, hf⟩ := hf
      refine g_last C hW h10 dX11_loss_42 (fun H locs hW => ?_)
      refine lv_aload_n hx hb dX11_loss_43 rfl (lv_at hl 0 rfl) ?_
      refine g_get (ci := 11) (k := 0) (val := .ref (E.ad 61)) C g_us hW rfl rfl rfl (in_sid _ rfl) (by decide) f_RX11_7 rfl dX11_loss_44 ?_
      refine lv_sipush (v := 132) hx hb dX11_loss_47 (by decide) ?_
      refine lv_dup2_11 hx hb dX11_loss_50 rfl rfl ?_
      replace hf := bd_so hf
      obtain ⟨x11, h12, hf⟩ := hf
      refine g_iald C hW h12 dX11_loss_51 ?_
      refine lv_iconst (v := 1) hx hb dX11_loss_52 (by decide) ?_
      refine lv_iadd hx hb dX11_loss_53 ?_
      replace hf := bd_so hf
      obtain ⟨S13, h14, hf⟩ := hf
      refine g_iast C hW h14 dX11_loss_54 (fun H locs hW => ?_)
      refine lv_aload_n hx hb dX11_loss_55 rfl (lv_at hl 0 rfl) ?_
      refine g_get (ci := 11) (k := 0) (val := .ref (E.ad 61)) C g_us hW rfl rfl rfl (in_sid _ rfl) (by decide) f_RX11_7 rfl dX11_loss_56 ?_
      refine lv_sipush (v := 132) hx hb dX11_loss_59 (by decide) ?_
      replace hf := bd_so hf
      obtain ⟨x15, h16, hf⟩ := hf
      refine g_iald C hW h16 dX11_loss_62 ?_
      refine lv_iconst (v := 1) hx hb dX11_loss_63 (by decide) ?_
      refine lv_isub hx hb dX11_loss_64 ?_
      obtain ⟨rfl, rfl⟩ := so2 hf
      exact kR _ _ _ _ hW dX11_loss_65
    · replace hf := ift_ hf c6
      refine lv_bipush (v := (-3)) hx hb dX11_loss_26 (by decide) ?_
      obtain ⟨rfl, rfl⟩ := so2 hf
      exact kR _ _ _ _ hW dX11_loss_28
  · replace hf := ift_ hf c3
    refine lv_iconst (v := (-1)) hx hb dX11_loss_11 (by decide) ?_
    obtain ⟨rfl, rfl⟩ := so2 hf
    exact kR _ _ _ _ hW dX11_loss_12

abbrev rm_X11_lostBy : Room := { frames := 1, cells := 0, slots := 0, locals := 60 }
set_option maxHeartbeats 4000000 in
set_option maxRecDepth 100000 in
theorem c_X11_lostBy (l : Launch) (E : En) (S : St) (a1 : Int32) (a2 : Int32) (r : Int32) (hf : X11_lostBy S a1 a2 = some r) : Mi l E yX11_lostBy cX11_lostBy 9 (some .int) rm_X11_lostBy [.ref (E.ad 60), .int a1, .int a2] S r S := by
  refine g_startI (cc := cX11_lostBy) (n := 9) (by decide) (Nat.le_of_ble_eq_true rfl) ?_
  intro p e s m args below meth c Q H locs C kR hW ls hl
  obtain ⟨⟨hx, hb, hml, hown, hts⟩, hK, hT⟩ := id C
  have hl : lv_has ls 9 [(0, .ref (E.ad 60)), (1, .int a1), (2, .int a2)] := hl
  have X11_lostBy_L22_c : ∀ (S : St) (v1 : Int32) (v2 : Int32) (v3 : Int32) (v4 : Int32) (res : Int32 × Int32) (n : Nat) (v5 : Int32) (v6 : Int32) (v7 : Int32) (H : Heap) (locs : List Loc) (ls : Array Slot), Ww E S s H locs → lv_has ls 9 [(0, .ref (E.ad 60)), (1, .int v1), (2, .int v2), (3, .int v3), (4, .int v4), (5, .int v5), (6, .int v6), (7, .int v7)] → X11_lostBy_L22 S v1 v2 v3 v4 n v5 v6 v7 = some res → (∀ (w5 : Int32) (w6 : Int32) (H : Heap) (locs : List Loc) (ls : Array Slot), some (w5, w6) = some res → Ww E S s H locs → lv_has ls 9 [(0, .ref (E.ad 60)), (1, .int v1), (2, .int v2), (3, .int v3), (4, .int v4), (5, .int w5), (6, .int w6)] → W p l e rm_X11_lostBy s m args below meth c H locs 0 0 Q (F0 m 100 ls [])) → W p l e rm_X11_lostBy s m args below meth c H locs 0 0 Q (F0 m 22 ls []) := by
    intro S v1 v2 v3 v4 res n
    induction n with
    | zero =>
      intro v5 v6 v7 H locs ls hW hl hf
      cases hf
    | succ n ih =>
      intro v5 v6 v7 H locs ls hW hl hf kE
      unfold X11_lostBy_L22 at hf
      refine lv_iload hx hb dX11_lostBy_22 (lv_at hl 7 rfl) ?_
      refine lv_iload hx hb dX11_lostBy_24 (lv_at hl 4 rfl) ?_
      refine lv_iload_n hx hb dX11_lostBy_26 rfl (lv_at hl 2 rfl) ?_
      refine lv_iadd hx hb dX11_lostBy_27 ?_
      refine lv_icmp_ge (tgt := 100) hx hb dX11_lostBy_28 (by decide) (fun c2 => ?_) (fun c2 => ?_)
      · replace hf := ift_ hf c2
        exact kE _ _ _ _ _ hf hW (lv_sub hl [0, 1, 2, 3, 4, 5, 6] rfl)
      · replace hf := iff_ hf c2
        refine lv_iload hx hb dX11_lostBy_31 (lv_at hl 7 rfl) ?_
        refine lv_bipush (v := 24) hx hb dX11_lostBy_33 (by decide) ?_
        refine lv_icmp_ge (tgt := 100) hx hb dX11_lostBy_35 (by decide) (fun c3 => ?_) (fun c3 => ?_)
        · replace hf := ift_ hf c3
          exact kE _ _ _ _ _ hf hW (lv_sub hl [0, 1, 2, 3, 4, 5, 6] rfl)
        · replace hf := iff_ hf c3
          refine lv_aload_n hx hb dX11_lostBy_38 rfl (lv_at hl 0 rfl) ?_
          refine g_get (ci := 11) (k := 1) (val := .ref (E.ad 62)) C g_us hW rfl rfl rfl (in_sid _ rfl) (by decide) f_RX11_13 rfl dX11_lostBy_39 ?_
          refine lv_iload_n hx hb dX11_lostBy_42 rfl (lv_at hl 1 rfl) ?_
          replace hf := bd_so hf
          obtain ⟨x4, h5, hf⟩ := hf
          refine g_lald C hW h5 dX11_lostBy_43 ?_
          refine lv_iload hx hb dX11_lostBy_44 (lv_at hl 7 rfl) ?_
          refine lv_lshr (v := (x4 >>> ((v7 : Int32).toInt64 &&& 63))) hx hb dX11_lostBy_46 rfl ?_
          refine lv_lconst (v := 1) hx hb dX11_lostBy_47 (by decide) ?_
          refine lv_land hx hb dX11_lostBy_48 ?_
          refine lv_lconst (v := 1) hx hb dX11_lostBy_49 (by decide) ?_
          refine W.lcmp hx hb dX11_lostBy_50 ?_
          replace hf := bd_so hf
          obtain ⟨x7, h8, hf⟩ := hf
          have J9 : ∀ (H : Heap) (locs : List Loc) (ls : Array Slot), Ww E S s H locs → lv_has ls 9 [(0, .ref (E.ad 60)), (1, .int v1), (2, .int v2), (3, .int v3), (4, .int v4), (5, .int v5), (6, .int v6), (7, .int v7)] → W p l e rm_X11_lostBy s m args below meth c H locs 0 0 Q (F0 m 59 ls [.int x7]) := by
            intro H locs ls hW hl
            refine lv_istore (lv' := [(8, .int x7), (0, .ref (E.ad 60)), (1, .int v1), (2, .int v2), (3, .int v3), (4, .int v4), (5, .int v5), (6, .int v6), (7, .int v7)]) hx hb dX11_lostBy_59 hl (by decide) rfl (fun ls hl => ?_)
            refine lv_iload hx hb dX11_lostBy_61 (lv_at hl 6 rfl) ?_
            refine lv_iload hx hb dX11_lostBy_63 (lv_at hl 0 rfl) ?_
            replace hf := bd_so hf
            obtain ⟨x11, h12, hf⟩ := hf
            have J13 : ∀ (H : Heap) (locs : List Loc) (ls : Array Slot), Ww E S s H locs → lv_has ls 9 [(0, .ref (E.ad 60)), (1, .int v1), (2, .int v2), (3, .int v3), (4, .int v4), (6, .int v6), (7, .int v7), (8, .int x7)] → W p l e rm_X11_lostBy s m args below meth c H locs 0 0 Q (F0 m 76 ls [.int x11, .int v5]) := by
              intro H locs ls hW hl
              refine lv_ior hx hb dX11_lostBy_76 ?_
              refine lv_istore (lv' := [(5, .int (v5 ||| x11)), (0, .ref (E.ad 60)), (1, .int v1), (2, .int v2), (3, .int v3), (4, .int v4), (6, .int v6), (7, .int v7), (8, .int x7)]) hx hb dX11_lostBy_77 hl (by decide) rfl (fun ls hl => ?_)
              refine lv_iload hx hb dX11_lostBy_79 (lv_at hl 6 rfl) ?_
              refine lv_iload hx hb dX11_lostBy_81 (lv_at hl 8 rfl) ?_
              replace hf := bd_so hf
              obtain ⟨x15, h16, hf⟩ := hf
              have J17 : ∀ (H : Heap) (locs : List Loc) (ls : Array Slot), Ww E S s H locs → lv_has ls 9 [(0, .ref (E.ad 60)), (1, .int v1), (2, .int v2), (3, .int v3), (4, .int v4), (5, .int (v5 ||| x11)), (7, .int v7)] → W p l e rm_X11_lostBy s m args below meth c H locs 0 0 Q (F0 m 91 ls [.int x15, .int v6]) := by
                intro H locs ls hW hl
                refine lv_iadd hx hb dX11_lostBy_91 ?_
                refine lv_istore (lv' := [(6, .int (v6 + x15)), (0, .ref (E.ad 60)), (1, .int v1), (2, .int v2), (3, .int v3), (4, .int v4), (5, .int (v5 ||| x11)), (7, .int v7)]) hx hb dX11_lostBy_92 hl (by decide) rfl (fun ls hl => ?_)
                refine lv_iinc (v := (v7 + 1)) (lv' := [(7, .int (v7 + 1)), (6, .int (v6 + x15)), (0, .ref (E.ad 60)), (1, .int v1), (2, .int v2), (3, .int v3), (4, .int v4), (5, .int (v5 ||| x11))]) hx hb dX11_lostBy_94 hl (k := 7) rfl rfl (by decide) rfl (fun ls hl => ?_)
                refine lv_goto (tgt := 22) hx hb dX11_lostBy_97 (by decide) ?_
                exact ih _ _ _ _ _ _ hW (lv_sub hl [2, 3, 4, 5, 6, 7, 1, 0] rfl) hf kE
              clear hf
              have hf := h16
              clear h16
              refine lv_if_eq (tgt := 90) hx hb dX11_lostBy_83 (by decide) (fun c14 => ?_) (fun c14 => ?_)
              · replace hf := ift_ hf c14
                refine lv_iconst (v := 0) hx hb dX11_lostBy_90 (by decide) ?_
                obtain rfl := so1 hf
                exact J17 _ _ _ hW (lv_sub hl [1, 2, 3, 4, 5, 0, 7] rfl)
              · replace hf := iff_ hf c14
                refine lv_iconst (v := 1) hx hb dX11_lostBy_86 (by decide) ?_
                refine lv_goto (tgt := 91) hx hb dX11_lostBy_87 (by decide) ?_
                obtain rfl := so1 hf
                exact J17 _ _ _ hW (lv_sub hl [1, 2, 3, 4, 5, 0, 7] rfl)
            clear hf
            have hf := h12
            clear h12
            refine lv_if_eq (tgt := 75) hx hb dX11_lostBy_65 (by decide) (fun c10 => ?_) (fun c10 => ?_)
            · replace hf := ift_ hf c10
              refine lv_iconst (v := 0) hx hb dX11_lostBy_75 (by decide) ?_
              obtain rfl := so1 hf
              exact J13 _ _ _ hW (lv_sub hl [1, 2, 3, 4, 5, 7, 8, 0] rfl)
            · replace hf := iff_ hf c10
              refine lv_iconst (v := 1) hx hb dX11_lostBy_68 (by decide) ?_
              refine lv_iload hx hb dX11_lostBy_69 (lv_at hl 8 rfl) ?_
              refine lv_ishl hx hb dX11_lostBy_71 ?_
              refine lv_goto (tgt := 76) hx hb dX11_lostBy_72 (by decide) ?_
              obtain rfl := so1 hf
              exact J13 _ _ _ hW (lv_sub hl [1, 2, 3, 4, 5, 7, 8, 0] rfl)
          clear hf
          have hf := h8
          clear h8
          refine lv_if_ne (tgt := 58) hx hb dX11_lostBy_51 (by decide) (fun c6 => ?_) (fun c6 => ?_)
          · replace hf := iff_ hf c6
            refine lv_iconst (v := 0) hx hb dX11_lostBy_58 (by decide) ?_
            obtain rfl := so1 hf
            exact J9 _ _ _ hW (lv_sub hl [0, 1, 2, 3, 4, 5, 6, 7] rfl)
          · replace hf := ift_ hf c6
            refine lv_iconst (v := 1) hx hb dX11_lostBy_54 (by decide) ?_
            refine lv_goto (tgt := 59) hx hb dX11_lostBy_55 (by decide) ?_
            obtain rfl := so1 hf
            exact J9 _ _ _ hW (lv_sub hl [0, 1, 2, 3, 4, 5, 6, 7] rfl)
  have X11_lostBy_L5_c : ∀ (S : St) (v1 : Int32) (v2 : Int32) (res : Int32) (n : Nat) (v3 : Int32) (v4 : Int32) (H : Heap) (locs : List Loc) (ls : Array Slot), Ww E S s H locs → lv_has ls 9 [(0, .ref (E.ad 60)), (1, .int v1), (2, .int v2), (3, .int v3), (4, .int v4)] → X11_lostBy_L5 S v1 v2 n v3 v4 = some res → (∀ (w3 : Int32) (H : Heap) (locs : List Loc) (ls : Array Slot), some w3 = some res → Ww E S s H locs → lv_has ls 9 [(3, .int w3)] → W p l e rm_X11_lostBy s m args below meth c H locs 0 0 Q (F0 m 157 ls [])) → W p l e rm_X11_lostBy s m args below meth c H locs 0 0 Q (F0 m 5 ls []) := by
    intro S v1 v2 res n
    induction n with
    | zero =>
      intro v3 v4 H locs ls hW hl hf
      cases hf
    | succ n ih =>
      intro v3 v4 H locs ls hW hl hf kE
      unfold X11_lostBy_L5 at hf
      refine lv_iload hx hb dX11_lostBy_5 (lv_at hl 4 rfl) ?_
      refine lv_bipush (v := 24) hx hb dX11_lostBy_7 (by decide) ?_
      refine lv_icmp_ge (tgt := 157) hx hb dX11_lostBy_9 (by decide) (fun c1 => ?_) (fun c1 => ?_)
      · replace hf := ift_ hf c1
        exact kE _ _ _ _ hf hW (lv_sub hl [3] rfl)
      · replace hf := iff_ hf c1
        refine lv_iconst (v := 0) hx hb dX11_lostBy_12 (by decide) ?_
        refine lv_istore (lv' := [(5, .int 0), (0, .ref (E.ad 60)), (1, .int v1), (2, .int v2), (3, .int v3), (4, .int v4)]) hx hb dX11_lostBy_13 hl (by decide) rfl (fun ls hl => ?_)
        refine lv_iconst (v := 0) hx hb dX11_lostBy_15 (by decide) ?_
        refine lv_istore (lv' := [(6, .int 0), (5, .int 0), (0, .ref (E.ad 60)), (1, .int v1), (2, .int v2), (3, .int v3), (4, .int v4)]) hx hb dX11_lostBy_16 hl (by decide) rfl (fun ls hl => ?_)
        refine lv_iload hx hb dX11_lostBy_18 (lv_at hl 6 rfl) ?_
        refine lv_istore (lv' := [(7, .int v4), (6, .int 0), (5, .int 0), (0, .ref (E.ad 60)), (1, .int v1), (2, .int v2), (3, .int v3), (4, .int v4)]) hx hb dX11_lostBy_20 hl (by decide) rfl (fun ls hl => ?_)
        replace hf := bd_so hf
        obtain ⟨⟨x18, x19⟩, h20, hf⟩ := hf
        dsimp only at hf
        have J34 : ∀ (H : Heap) (locs : List Loc) (ls : Array Slot), Ww E S s H locs → lv_has ls 9 [(0, .ref (E.ad 60)), (1, .int v1), (2, .int v2), (3, .int v3), (4, .int v4), (5, .int x18), (6, .int x19)] → W p l e rm_X11_lostBy s m args below meth c H locs 0 0 Q (F0 m 100 ls []) := by
          intro H locs ls hW hl
          refine lv_aload_n hx hb dX11_lostBy_100 rfl (lv_at hl 0 rfl) ?_
          refine g_get (ci := 11) (k := 1) (val := .ref (E.ad 62)) C g_us hW rfl rfl rfl (in_sid _ rfl) (by decide) f_RX11_13 rfl dX11_lostBy_101 ?_
          refine lv_iload_n hx hb dX11_lostBy_104 rfl (lv_at hl 1 rfl) ?_
          replace hf := bd_so hf
          obtain ⟨x21, h22, hf⟩ := hf
          refine g_lald C hW h22 dX11_lostBy_105 ?_
          refine lv_bipush (v := 24) hx hb dX11_lostBy_106 (by decide) ?_
          refine lv_iload hx hb dX11_lostBy_108 (lv_at hl 4 rfl) ?_
          refine lv_iload_n hx hb dX11_lostBy_110 rfl (lv_at hl 2 rfl) ?_
          replace hf := bd_so hf
          obtain ⟨x23, h24, hf⟩ := hf
          refine g_idiv C h24 dX11_lostBy_111 ?_
          refine lv_iadd hx hb dX11_lostBy_112 ?_
          refine lv_lshr (v := (x21 >>> (((24 + x23) : Int32).toInt64 &&& 63))) hx hb dX11_lostBy_113 rfl ?_
          refine lv_lconst (v := 1) hx hb dX11_lostBy_114 (by decide) ?_
          refine lv_land hx hb dX11_lostBy_115 ?_
          refine lv_lconst (v := 1) hx hb dX11_lostBy_116 (by decide) ?_
          refine W.lcmp hx hb dX11_lostBy_117 ?_
          replace hf := bd_so hf
          obtain ⟨x26, h27, hf⟩ := hf
          have J28 : ∀ (H : Heap) (locs : List Loc) (ls : Array Slot), Ww E S s H locs → lv_has ls 9 [(0, .ref (E.ad 60)), (1, .int v1), (2, .int v2), (3, .int v3), (4, .int v4), (5, .int x18), (6, .int x19)] → W p l e rm_X11_lostBy s m args below meth c H locs 0 0 Q (F0 m 126 ls [.int x26]) := by
            intro H locs ls hW hl
            refine lv_istore (lv' := [(7, .int x26), (0, .ref (E.ad 60)), (1, .int v1), (2, .int v2), (3, .int v3), (4, .int v4), (5, .int x18), (6, .int x19)]) hx hb dX11_lostBy_126 hl (by decide) rfl (fun ls hl => ?_)
            refine lv_iload_n hx hb dX11_lostBy_128 rfl (lv_at hl 4 rfl) ?_
            refine lv_iload hx hb dX11_lostBy_129 (lv_at hl 7 rfl) ?_
            refine lv_iconst (v := 1) hx hb dX11_lostBy_131 (by decide) ?_
            replace hf := bd_so hf
            obtain ⟨x30, h31, hf⟩ := hf
            have J32 : ∀ (H : Heap) (locs : List Loc) (ls : Array Slot), Ww E S s H locs → lv_has ls 9 [(0, .ref (E.ad 60)), (1, .int v1), (2, .int v2), (4, .int v4)] → W p l e rm_X11_lostBy s m args below meth c H locs 0 0 Q (F0 m 146 ls [.int x30, .int v3]) := by
              intro H locs ls hW hl
              refine lv_ior hx hb dX11_lostBy_146 ?_
              refine lv_istore_n (lv' := [(3, .int (v3 ||| x30)), (0, .ref (E.ad 60)), (1, .int v1), (2, .int v2), (4, .int v4)]) hx hb dX11_lostBy_147 rfl hl (by decide) rfl (fun ls hl => ?_)
              refine lv_iload hx hb dX11_lostBy_148 (lv_at hl 4 rfl) ?_
              refine lv_iload_n hx hb dX11_lostBy_150 rfl (lv_at hl 3 rfl) ?_
              refine lv_iadd hx hb dX11_lostBy_151 ?_
              refine lv_istore (lv' := [(4, .int (v4 + v2)), (3, .int (v3 ||| x30)), (0, .ref (E.ad 60)), (1, .int v1), (2, .int v2)]) hx hb dX11_lostBy_152 hl (by decide) rfl (fun ls hl => ?_)
              refine lv_goto (tgt := 5) hx hb dX11_lostBy_154 (by decide) ?_
              exact ih _ _ _ _ _ hW (lv_sub hl [2, 3, 4, 1, 0] rfl) hf kE
            clear hf
            have hf := h31
            clear h31
            refine lv_icmp_ne (tgt := 144) hx hb dX11_lostBy_132 (by decide) (fun c29 => ?_) (fun c29 => ?_)
            · replace hf := iff_ hf c29
              refine lv_iload hx hb dX11_lostBy_144 (lv_at hl 6 rfl) ?_
              obtain rfl := so1 hf
              exact J32 _ _ _ hW (lv_sub hl [1, 2, 3, 5] rfl)
            · replace hf := ift_ hf c29
              refine lv_iload hx hb dX11_lostBy_135 (lv_at hl 0 rfl) ?_
              refine lv_if_ne (tgt := 144) hx hb dX11_lostBy_137 (by decide) (fun c33 => ?_) (fun c33 => ?_)
              · replace hf := iff_ hf c33
                refine lv_iload hx hb dX11_lostBy_144 (lv_at hl 6 rfl) ?_
                obtain rfl := so1 hf
                exact J32 _ _ _ hW (lv_sub hl [1, 2, 3, 5] rfl)
              · replace hf := ift_ hf c33
                refine lv_iconst (v := 0) hx hb dX11_lostBy_140 (by decide) ?_
                refine lv_goto (tgt := 146) hx hb dX11_lostBy_141 (by decide) ?_
                obtain rfl := so1 hf
                exact J32 _ _ _ hW (lv_sub hl [1, 2, 3, 5] rfl)
          clear hf
          have hf := h27
          clear h27
          refine lv_if_ne (tgt := 125) hx hb dX11_lostBy_118 (by decide) (fun c25 => ?_) (fun c25 => ?_)
          · replace hf := iff_ hf c25
            refine lv_iconst (v := 0) hx hb dX11_lostBy_125 (by decide) ?_
            obtain rfl := so1 hf
            exact J28 _ _ _ hW (lv_sub hl [0, 1, 2, 3, 4, 5, 6] rfl)
          · replace hf := ift_ hf c25
            refine lv_iconst (v := 1) hx hb dX11_lostBy_121 (by decide) ?_
            refine lv_goto (tgt := 126) hx hb dX11_lostBy_122 (by decide) ?_
            obtain rfl := so1 hf
            exact J28 _ _ _ hW (lv_sub hl [0, 1, 2, 3, 4, 5, 6] rfl)
        exact X11_lostBy_L22_c _ _ _ _ _ _ FU _ _ _ _ _ _ hW (lv_sub hl [3, 4, 5, 6, 7, 2, 1, 0] rfl) h20 (fun _ _ H locs ls e hW hl => by cases e; exact J34 H locs ls hW hl)
  unfold X11_lostBy at hf
  refine lv_iconst (v := 0) hx hb dX11_lostBy_0 (by decide) ?_
  refine lv_istore_n (lv' := [(3, .int 0), (0, .ref (E.ad 60)), (1, .int a1), (2, .int a2)]) hx hb dX11_lostBy_1 rfl hl (by decide) rfl (fun ls hl => ?_)
  refine lv_iconst (v := 0) hx hb dX11_lostBy_2 (by decide) ?_
  refine lv_istore (lv' := [(4, .int 0), (3, .int 0), (0, .ref (E.ad 60)), (1, .int a1), (2, .int a2)]) hx hb dX11_lostBy_3 hl (by decide) rfl (fun ls hl => ?_)
  replace hf := bd_so hf
  obtain ⟨x35, h36, hf⟩ := hf
  have J37 : ∀ (H : Heap) (locs : List Loc) (ls : Array Slot), Ww E S s H locs → lv_has ls 9 [(3, .int x35)] → W p l e rm_X11_lostBy s m args below meth c H locs 0 0 Q (F0 m 157 ls []) := by
    intro H locs ls hW hl
    refine lv_iload_n hx hb dX11_lostBy_157 rfl (lv_at hl 0 rfl) ?_
    obtain rfl := so1 hf
    exact kR _ _ _ _ hW dX11_lostBy_158
  exact X11_lostBy_L5_c _ _ _ _ FU _ _ _ _ _ hW (lv_sub hl [2, 3, 4, 1, 0] rfl) h36 (fun _ H locs ls e hW hl => by cases e; exact J37 H locs ls hW hl)

abbrev rm_X11_lost : Room := { frames := 2, cells := 0, slots := 0, locals := 88 }
set_option maxHeartbeats 4000000 in
set_option maxRecDepth 100000 in
theorem c_X11_lost (l : Launch) (E : En) (S : St) (a1 : Int32) (a2 : Int32) (r : Int32) (hf : X11_lost S a1 a2 = some r) : Mi l E yX11_lost cX11_lost 3 (some .int) rm_X11_lost [.ref (E.ad 60), .int a1, .int a2] S r S := by
  refine g_startI (cc := cX11_lost) (n := 3) (by decide) (Nat.le_of_ble_eq_true rfl) ?_
  intro p e s m args below meth c Q H locs C kR hW ls hl
  obtain ⟨⟨hx, hb, hml, hown, hts⟩, hK, hT⟩ := id C
  have hl : lv_has ls 3 [(0, .ref (E.ad 60)), (1, .int a1), (2, .int a2)] := hl
  unfold X11_lost at hf
  refine lv_iload_n hx hb dX11_lost_0 rfl (lv_at hl 1 rfl) ?_
  refine lv_i2l (v := (a1 : Int32).toInt64) hx hb dX11_lost_1 rfl ?_
  refine lv_lconst (v := 0) hx hb dX11_lost_2 (by decide) ?_
  refine lv_aload_n hx hb dX11_lost_3 rfl (lv_at hl 0 rfl) ?_
  refine g_get (ci := 11) (k := 0) (val := .ref (E.ad 61)) C g_us hW rfl rfl rfl (in_sid _ rfl) (by decide) f_RX11_7 rfl dX11_lost_4 ?_
  refine lv_sipush (v := 132) hx hb dX11_lost_7 (by decide) ?_
  replace hf := bd_so hf
  obtain ⟨x1, h2, hf⟩ := hf
  refine g_iald C hW h2 dX11_lost_10 ?_
  refine lv_iconst (v := 1) hx hb dX11_lost_11 (by decide) ?_
  refine lv_isub hx hb dX11_lost_12 ?_
  refine lv_i2l (v := ((x1 - 1) : Int32).toInt64) hx hb dX11_lost_13 rfl ?_
  replace hf := bd_so hf
  obtain ⟨x4, h3, hf⟩ := hf
  refine g_callSi (As := [.long ((a1 : Int32).toInt64), .long 0, .long (((x1 - 1) : Int32).toInt64)]) (rest := []) C g_us hW hl.1 (c_X11_in l E S ((a1 : Int32).toInt64) 0 (((x1 - 1) : Int32).toInt64) _ h3) k_RX11_72 rfl ⟨rfl, rfl⟩ ⟨Nat.le_of_ble_eq_true rfl, Nat.le_of_ble_eq_true rfl⟩ ⟨Nat.zero_le _, Nat.zero_le _⟩ _ rfl (Nat.le_of_ble_eq_true rfl) dX11_lost_14 (fun H locs hW => ?_)
  refine lv_if_eq (tgt := 41) hx hb dX11_lost_17 (by decide) (fun c5 => ?_) (fun c5 => ?_)
  · replace hf := ift_ hf c5
    refine lv_iconst (v := (-1)) hx hb dX11_lost_41 (by decide) ?_
    obtain rfl := so1 hf
    exact kR _ _ _ _ hW dX11_lost_42
  · replace hf := iff_ hf c5
    refine lv_iload_n hx hb dX11_lost_20 rfl (lv_at hl 2 rfl) ?_
    refine lv_i2l (v := (a2 : Int32).toInt64) hx hb dX11_lost_21 rfl ?_
    refine lv_lconst (v := 1) hx hb dX11_lost_22 (by decide) ?_
    refine lv_ldc2 hx hb hown (hts _ (g_us _ q_RX11_189)) dX11_lost_23 ?_
    replace hf := bd_so hf
    obtain ⟨x7, h6, hf⟩ := hf
    refine g_callSi (As := [.long ((a2 : Int32).toInt64), .long 1, .long 12]) (rest := []) C g_us hW hl.1 (c_X11_in l E S ((a2 : Int32).toInt64) 1 12 _ h6) k_RX11_72 rfl ⟨rfl, rfl⟩ ⟨Nat.le_of_ble_eq_true rfl, Nat.le_of_ble_eq_true rfl⟩ ⟨Nat.zero_le _, Nat.zero_le _⟩ _ rfl (Nat.le_of_ble_eq_true rfl) dX11_lost_26 (fun H locs hW => ?_)
    refine lv_if_eq (tgt := 41) hx hb dX11_lost_29 (by decide) (fun c8 => ?_) (fun c8 => ?_)
    · replace hf := ift_ hf c8
      refine lv_iconst (v := (-1)) hx hb dX11_lost_41 (by decide) ?_
      obtain rfl := so1 hf
      exact kR _ _ _ _ hW dX11_lost_42
    · replace hf := iff_ hf c8
      refine lv_aload_n hx hb dX11_lost_32 rfl (lv_at hl 0 rfl) ?_
      refine lv_iload_n hx hb dX11_lost_33 rfl (lv_at hl 1 rfl) ?_
      refine lv_iload_n hx hb dX11_lost_34 rfl (lv_at hl 2 rfl) ?_
      replace hf := bd_so hf
      obtain ⟨x10, h9, hf⟩ := hf
      refine g_callVi (ci := 11) (As := [.int a1, .int a2]) (rest := []) C g_us hW hl.1 (c_X11_lostBy l E S a1 a2 _ h9) rfl rfl rfl (in_sid _ rfl) k_RX11_191 rfl ⟨rfl, rfl⟩ ⟨Nat.le_of_ble_eq_true rfl, Nat.le_of_ble_eq_true rfl⟩ ⟨Nat.zero_le _, Nat.zero_le _⟩ _ rfl (Nat.le_of_ble_eq_true rfl) dX11_lost_35 (fun H locs hW => ?_)
      refine lv_goto (tgt := 42) hx hb dX11_lost_38 (by decide) ?_
      obtain rfl := so1 hf
      exact kR _ _ _ _ hW dX11_lost_42

abbrev rm_X11_group : Room := { frames := 2, cells := 0, slots := 0, locals := 88 }
set_option maxHeartbeats 4000000 in
set_option maxRecDepth 100000 in
theorem c_X11_group (l : Launch) (E : En) (S : St) (r : Int32) (hf : X11_group S  = some r) : Mi l E yX11_group cX11_group 4 (some .int) rm_X11_group [.ref (E.ad 60)] S r S := by
  refine g_startI (cc := cX11_group) (n := 4) (by decide) (Nat.le_of_ble_eq_true rfl) ?_
  intro p e s m args below meth c Q H locs C kR hW ls hl
  obtain ⟨⟨hx, hb, hml, hown, hts⟩, hK, hT⟩ := id C
  have hl : lv_has ls 4 [(0, .ref (E.ad 60))] := hl
  have X11_group_L11_c : ∀ (S : St) (v1 : Int32) (res : Int32) (n : Nat) (v2 : Int32) (v3 : Int32) (H : Heap) (locs : List Loc) (ls : Array Slot), Ww E S s H locs → lv_has ls 4 [(0, .ref (E.ad 60)), (1, .int v1), (2, .int v2), (3, .int v3)] → X11_group_L11 S v1 n v2 v3 = some res → (∀ (w2 : Int32) (H : Heap) (locs : List Loc) (ls : Array Slot), some w2 = some res → Ww E S s H locs → lv_has ls 4 [(0, .ref (E.ad 60)), (1, .int v1), (2, .int w2)] → W p l e rm_X11_group s m args below meth c H locs 0 0 Q (F0 m 48 ls [])) → W p l e rm_X11_group s m args below meth c H locs 0 0 Q (F0 m 11 ls []) := by
    intro S v1 res n
    induction n with
    | zero =>
      intro v2 v3 H locs ls hW hl hf
      cases hf
    | succ n ih =>
      intro v2 v3 H locs ls hW hl hf kE
      unfold X11_group_L11 at hf
      refine lv_iload_n hx hb dX11_group_11 rfl (lv_at hl 3 rfl) ?_
      refine lv_aload_n hx hb dX11_group_12 rfl (lv_at hl 0 rfl) ?_
      refine g_get (ci := 11) (k := 0) (val := .ref (E.ad 61)) C g_us hW rfl rfl rfl (in_sid _ rfl) (by decide) f_RX11_7 rfl dX11_group_13 ?_
      refine lv_sipush (v := 132) hx hb dX11_group_16 (by decide) ?_
      replace hf := bd_so hf
      obtain ⟨x2, h3, hf⟩ := hf
      refine g_iald C hW h3 dX11_group_19 ?_
      refine lv_icmp_ge (tgt := 48) hx hb dX11_group_20 (by decide) (fun c4 => ?_) (fun c4 => ?_)
      · replace hf := ift_ hf c4
        exact kE _ _ _ _ hf hW (lv_sub hl [0, 1, 2] rfl)
      · replace hf := iff_ hf c4
        refine lv_iload_n hx hb dX11_group_23 rfl (lv_at hl 2 rfl) ?_
        replace hf := bd_so hf
        obtain ⟨x6, h7, hf⟩ := hf
        have J8 : ∀ (H : Heap) (locs : List Loc) (ls : Array Slot), Ww E S s H locs → lv_has ls 4 [(0, .ref (E.ad 60)), (1, .int v1), (3, .int v3)] → W p l e rm_X11_group s m args below meth c H locs 0 0 Q (F0 m 41 ls [.int x6]) := by
          intro H locs ls hW hl
          refine lv_istore_n (lv' := [(2, .int x6), (0, .ref (E.ad 60)), (1, .int v1), (3, .int v3)]) hx hb dX11_group_41 rfl hl (by decide) rfl (fun ls hl => ?_)
          refine lv_iinc (v := (v3 + 1)) (lv' := [(3, .int (v3 + 1)), (2, .int x6), (0, .ref (E.ad 60)), (1, .int v1)]) hx hb dX11_group_42 hl (k := 3) rfl rfl (by decide) rfl (fun ls hl => ?_)
          refine lv_goto (tgt := 11) hx hb dX11_group_45 (by decide) ?_
          exact ih _ _ _ _ _ hW (lv_sub hl [2, 3, 1, 0] rfl) hf kE
        clear hf
        have hf := h7
        clear h7
        refine lv_if_eq (tgt := 40) hx hb dX11_group_24 (by decide) (fun c5 => ?_) (fun c5 => ?_)
        · replace hf := ift_ hf c5
          refine lv_iconst (v := 0) hx hb dX11_group_40 (by decide) ?_
          obtain rfl := so1 hf
          exact J8 _ _ _ hW (lv_sub hl [0, 1, 3] rfl)
        · replace hf := iff_ hf c5
          refine lv_aload_n hx hb dX11_group_27 rfl (lv_at hl 0 rfl) ?_
          refine lv_iload_n hx hb dX11_group_28 rfl (lv_at hl 3 rfl) ?_
          refine lv_iload_n hx hb dX11_group_29 rfl (lv_at hl 1 rfl) ?_
          replace hf := bd_so hf
          obtain ⟨x10, h9, hf⟩ := hf
          refine g_callVi (ci := 11) (As := [.int v3, .int v1]) (rest := []) C g_us hW hl.1 (c_X11_lostBy l E S v3 v1 _ h9) rfl rfl rfl (in_sid _ rfl) k_RX11_191 rfl ⟨rfl, rfl⟩ ⟨Nat.le_of_ble_eq_true rfl, Nat.le_of_ble_eq_true rfl⟩ ⟨Nat.zero_le _, Nat.zero_le _⟩ _ rfl (Nat.le_of_ble_eq_true rfl) dX11_group_30 (fun H locs hW => ?_)
          refine lv_if_ne (tgt := 40) hx hb dX11_group_33 (by decide) (fun c11 => ?_) (fun c11 => ?_)
          · replace hf := iff_ hf c11
            refine lv_iconst (v := 0) hx hb dX11_group_40 (by decide) ?_
            obtain rfl := so1 hf
            exact J8 _ _ _ hW (lv_sub hl [0, 1, 3] rfl)
          · replace hf := ift_ hf c11
            refine lv_iconst (v := 1) hx hb dX11_group_36 (by decide) ?_
            refine lv_goto (tgt := 41) hx hb dX11_group_37 (by decide) ?_
            obtain rfl := so1 hf
            exact J8 _ _ _ hW (lv_sub hl [0, 1, 3] rfl)
  have X11_group_L3_c : ∀ (S : St) (res : (Unit) ⊕ (Int32)) (n : Nat) (v1 : Int32) (H : Heap) (locs : List Loc) (ls : Array Slot), Ww E S s H locs → lv_has ls 4 [(0, .ref (E.ad 60)), (1, .int v1)] → X11_group_L3 S  n v1 = some res → (∀ (H : Heap) (locs : List Loc) (ls : Array Slot), some (.inl ()) = some res → Ww E S s H locs → lv_has ls 4 [] → W p l e rm_X11_group s m args below meth c H locs 0 0 Q (F0 m 60 ls [])) → (∀ (r0 : Int32) (H : Heap) (locs : List Loc) (pc : Nat) (ls : Array Slot), some (.inr r0) = some res → Ww E S s H locs → decode cX11_group pc = .ok (.ireturn, 1) → W p l e rm_X11_group s m args below meth c H locs 0 0 Q (F0 m pc ls [.int r0])) → W p l e rm_X11_group s m args below meth c H locs 0 0 Q (F0 m 3 ls []) := by
    intro S  res n
    induction n with
    | zero =>
      intro v1 H locs ls hW hl hf
      cases hf
    | succ n ih =>
      intro v1 H locs ls hW hl hf kE kR
      unfold X11_group_L3 at hf
      refine lv_iload_n hx hb dX11_group_3 rfl (lv_at hl 1 rfl) ?_
      refine lv_if_le (tgt := 60) hx hb dX11_group_4 (by decide) (fun c1 => ?_) (fun c1 => ?_)
      · replace hf := ift_ hf c1
        exact kE  _ _ _ hf hW (lv_sub hl [] rfl)
      · replace hf := iff_ hf c1
        refine lv_iconst (v := 1) hx hb dX11_group_7 (by decide) ?_
        refine lv_istore_n (lv' := [(2, .int 1), (0, .ref (E.ad 60)), (1, .int v1)]) hx hb dX11_group_8 rfl hl (by decide) rfl (fun ls hl => ?_)
        refine lv_iconst (v := 0) hx hb dX11_group_9 (by decide) ?_
        refine lv_istore_n (lv' := [(3, .int 0), (2, .int 1), (0, .ref (E.ad 60)), (1, .int v1)]) hx hb dX11_group_10 rfl hl (by decide) rfl (fun ls hl => ?_)
        replace hf := bd_so hf
        obtain ⟨x12, h13, hf⟩ := hf
        have J15 : ∀ (H : Heap) (locs : List Loc) (ls : Array Slot), Ww E S s H locs → lv_has ls 4 [(0, .ref (E.ad 60)), (1, .int v1), (2, .int x12)] → W p l e rm_X11_group s m args below meth c H locs 0 0 Q (F0 m 48 ls []) := by
          intro H locs ls hW hl
          refine lv_iload_n hx hb dX11_group_48 rfl (lv_at hl 2 rfl) ?_
          refine lv_if_eq (tgt := 54) hx hb dX11_group_49 (by decide) (fun c14 => ?_) (fun c14 => ?_)
          · replace hf := ift_ hf c14
            refine lv_iinc (v := (v1 + (-1))) (lv' := [(1, .int (v1 + (-1))), (0, .ref (E.ad 60)), (2, .int x12)]) hx hb dX11_group_54 hl (k := 1) rfl rfl (by decide) rfl (fun ls hl => ?_)
            refine lv_goto (tgt := 3) hx hb dX11_group_57 (by decide) ?_
            exact ih _ _ _ _ hW (lv_sub hl [1, 0] rfl) hf kE kR
          · replace hf := iff_ hf c14
            refine lv_iload_n hx hb dX11_group_52 rfl (lv_at hl 1 rfl) ?_
            exact kR _ _ _ _ _ hf hW dX11_group_53
        exact X11_group_L11_c _ _ _ FU _ _ _ _ _ hW (lv_sub hl [2, 3, 1, 0] rfl) h13 (fun _ H locs ls e hW hl => by cases e; exact J15 H locs ls hW hl)
  unfold X11_group at hf
  refine lv_bipush (v := 12) hx hb dX11_group_0 (by decide) ?_
  refine lv_istore_n (lv' := [(1, .int 12), (0, .ref (E.ad 60))]) hx hb dX11_group_2 rfl hl (by decide) rfl (fun ls hl => ?_)
  replace hf := bd_so hf
  obtain ⟨t, h16, hf⟩ := hf
  rcases t with u | x18
  · dsimp only at hf
    have J17 : ∀ (H : Heap) (locs : List Loc) (ls : Array Slot), Ww E S s H locs → lv_has ls 4 [] → W p l e rm_X11_group s m args below meth c H locs 0 0 Q (F0 m 60 ls []) := by
      intro H locs ls hW hl
      refine lv_bipush (v := (-4)) hx hb dX11_group_60 (by decide) ?_
      obtain rfl := so1 hf
      exact kR _ _ _ _ hW dX11_group_62
    exact X11_group_L3_c _ _ FU _ _ _ _ hW (lv_sub hl [1, 0] rfl) h16 (fun H locs ls e hW hl => by cases e; exact J17 H locs ls hW hl) (fun _ H locs pc ls e hW dd => by cases e)
  · dsimp only at hf
    refine X11_group_L3_c _ _ FU _ _ _ _ hW (lv_sub hl [1, 0] rfl) h16 (fun H locs ls e hW hl => by cases e) (fun _ H locs pc ls e hW dd => ?_)
    cases e
    obtain rfl := so1 hf
    exact kR _ _ _ _ hW dd

abbrev rm_X11_clear : Room := { frames := 1, cells := 0, slots := 0, locals := 60 }
set_option maxHeartbeats 4000000 in
set_option maxRecDepth 100000 in
theorem c_X11_clear (l : Launch) (E : En) (S : St) (r : Int32) (S1 : St) (hf : X11_clear S  = some (r, S1)) : Mi l E yX11_clear cX11_clear 2 (some .int) rm_X11_clear [.ref (E.ad 60)] S r S1 := by
  refine g_startI (cc := cX11_clear) (n := 2) (by decide) (Nat.le_of_ble_eq_true rfl) ?_
  intro p e s m args below meth c Q H locs C kR hW ls hl
  obtain ⟨⟨hx, hb, hml, hown, hts⟩, hK, hT⟩ := id C
  have hl : lv_has ls 2 [(0, .ref (E.ad 60))] := hl
  unfold X11_clear at hf
  refine lv_aload_n hx hb dX11_clear_0 rfl (lv_at hl 0 rfl) ?_
  refine g_get (ci := 11) (k := 0) (val := .ref (E.ad 61)) C g_us hW rfl rfl rfl (in_sid _ rfl) (by decide) f_RX11_7 rfl dX11_clear_1 ?_
  refine lv_sipush (v := 132) hx hb dX11_clear_4 (by decide) ?_
  replace hf := bd_so hf
  obtain ⟨x1, h2, hf⟩ := hf
  refine g_iald C hW h2 dX11_clear_7 ?_
  refine lv_istore_n (lv' := [(1, .int x1), (0, .ref (E.ad 60))]) hx hb dX11_clear_8 rfl hl (by decide) rfl (fun ls hl => ?_)
  refine lv_aload_n hx hb dX11_clear_9 rfl (lv_at hl 1 rfl) ?_
  refine g_get (ci := 11) (k := 0) (val := .ref (E.ad 61)) C g_us hW rfl rfl rfl (in_sid _ rfl) (by decide) f_RX11_7 rfl dX11_clear_10 ?_
  refine lv_sipush (v := 132) hx hb dX11_clear_13 (by decide) ?_
  refine lv_iconst (v := 0) hx hb dX11_clear_16 (by decide) ?_
  replace hf := bd_so hf
  obtain ⟨S3, h4, hf⟩ := hf
  refine g_iast C hW h4 dX11_clear_17 (fun H locs hW => ?_)
  refine lv_iload_n hx hb dX11_clear_18 rfl (lv_at hl 0 rfl) ?_
  obtain ⟨rfl, rfl⟩ := so2 hf
  exact kR _ _ _ _ hW dX11_clear_19

abbrev rm_X11_most : Room := { frames := 2, cells := 0, slots := 0, locals := 85 }
set_option maxHeartbeats 4000000 in
set_option maxRecDepth 100000 in
theorem c_X11_most (l : Launch) (E : En) (S : St) (a1 : Int32) (r : Int32) (S1 : St) (hf : X11_most S a1 = some (r, S1)) : Mi l E yX11_most cX11_most 3 (some .int) rm_X11_most [.ref (E.ad 60), .int a1] S r S1 := by
  refine g_startI (cc := cX11_most) (n := 3) (by decide) (Nat.le_of_ble_eq_true rfl) ?_
  intro p e s m args below meth c Q H locs C kR hW ls hl
  obtain ⟨⟨hx, hb, hml, hown, hts⟩, hK, hT⟩ := id C
  have hl : lv_has ls 3 [(0, .ref (E.ad 60)), (1, .int a1)] := hl
  unfold X11_most at hf
  refine lv_iload_n hx hb dX11_most_0 rfl (lv_at hl 1 rfl) ?_
  refine lv_i2l (v := (a1 : Int32).toInt64) hx hb dX11_most_1 rfl ?_
  refine lv_lconst (v := 1) hx hb dX11_most_2 (by decide) ?_
  refine lv_ldc2 hx hb hown (hts _ (g_us _ q_RX11_181)) dX11_most_3 ?_
  replace hf := bd_so hf
  obtain ⟨x2, h1, hf⟩ := hf
  refine g_callSi (As := [.long ((a1 : Int32).toInt64), .long 1, .long 7]) (rest := []) C g_us hW hl.1 (c_X11_in l E S ((a1 : Int32).toInt64) 1 7 _ h1) k_RX11_72 rfl ⟨rfl, rfl⟩ ⟨Nat.le_of_ble_eq_true rfl, Nat.le_of_ble_eq_true rfl⟩ ⟨Nat.zero_le _, Nat.zero_le _⟩ _ rfl (Nat.le_of_ble_eq_true rfl) dX11_most_6 (fun H locs hW => ?_)
  refine lv_if_ne (tgt := 14) hx hb dX11_most_9 (by decide) (fun c3 => ?_) (fun c3 => ?_)
  · replace hf := iff_ hf c3
    refine lv_aload_n hx hb dX11_most_14 rfl (lv_at hl 0 rfl) ?_
    refine g_get (ci := 11) (k := 0) (val := .ref (E.ad 61)) C g_us hW rfl rfl rfl (in_sid _ rfl) (by decide) f_RX11_7 rfl dX11_most_15 ?_
    refine lv_sipush (v := 131) hx hb dX11_most_18 (by decide) ?_
    replace hf := bd_so hf
    obtain ⟨x4, h5, hf⟩ := hf
    refine g_iald C hW h5 dX11_most_21 ?_
    refine lv_istore_n (lv' := [(2, .int x4), (0, .ref (E.ad 60)), (1, .int a1)]) hx hb dX11_most_22 rfl hl (by decide) rfl (fun ls hl => ?_)
    refine lv_aload_n hx hb dX11_most_23 rfl (lv_at hl 1 rfl) ?_
    refine g_get (ci := 11) (k := 0) (val := .ref (E.ad 61)) C g_us hW rfl rfl rfl (in_sid _ rfl) (by decide) f_RX11_7 rfl dX11_most_24 ?_
    refine lv_sipush (v := 131) hx hb dX11_most_27 (by decide) ?_
    refine lv_iload_n hx hb dX11_most_30 rfl (lv_at hl 2 rfl) ?_
    replace hf := bd_so hf
    obtain ⟨S6, h7, hf⟩ := hf
    refine g_iast C hW h7 dX11_most_31 (fun H locs hW => ?_)
    refine lv_iload_n hx hb dX11_most_32 rfl (lv_at hl 0 rfl) ?_
    obtain ⟨rfl, rfl⟩ := so2 hf
    exact kR _ _ _ _ hW dX11_most_33
  · replace hf := ift_ hf c3
    refine lv_iconst (v := (-1)) hx hb dX11_most_12 (by decide) ?_
    obtain ⟨rfl, rfl⟩ := so2 hf
    exact kR _ _ _ _ hW dX11_most_13

theorem zb_X11_parts_L54n {S : St} {v1 : Int32} : ∀ (n : Nat) (v2 v3 r : Int32), (v2 = 0 ∨ v2 = 1) → X11_parts_L54 S v1 n v2 v3 = some r → (r = 0 ∨ r = 1)
  | 0, _, _, _, _, h => by cases h
  | n + 1, v2, v3, r, hv, h => by
    unfold X11_parts_L54 at h
    split at h
    · obtain rfl := so1 h
      exact hv
    · obtain ⟨x, h1, h2⟩ := bd_so h
      refine zb_X11_parts_L54n n x (v3 + 1) r ?_ h2
      split at h1
      · obtain rfl := so1 h1
        exact Or.inl rfl
      · obtain ⟨a, -, h3⟩ := bd_so h1
        obtain ⟨b, -, h4⟩ := bd_so h3
        split at h4
        · obtain rfl := so1 h4
          exact Or.inl rfl
        · obtain rfl := so1 h4
          exact Or.inr rfl
theorem zb_X11_parts_L54 {S : St} {v1 r : Int32} (h : X11_parts_L54 S v1 FU 1 0 = some r) : r = 0 ∨ r = 1 := zb_X11_parts_L54n FU 1 0 r (Or.inr rfl) h
abbrev rm_X11_parts : Room := { frames := 1, cells := 0, slots := 0, locals := 60 }
set_option maxHeartbeats 4000000 in
set_option maxRecDepth 100000 in
theorem c_X11_parts (l : Launch) (E : En) (S : St) (a1 : Int32) (r : Int32) (S1 : St) (hf : X11_parts S a1 = some (r, S1)) : Mi l E yX11_parts cX11_parts 6 (some .boolean) rm_X11_parts [.ref (E.ad 60), .int a1] S r S1 := by
  refine g_startZ (cc := cX11_parts) (n := 6) (by decide) (Nat.le_of_ble_eq_true rfl) ?_
  intro p e s m args below meth c Q H locs C kR hW ls hl
  obtain ⟨⟨hx, hb, hml, hown, hts⟩, hK, hT⟩ := id C
  have hl : lv_has ls 6 [(0, .ref (E.ad 60)), (1, .int a1)] := hl
  have X11_parts_L2_c : ∀ (v1 : Int32) (res : St) (n : Nat) (v2 : Int32) (S : St) (H : Heap) (locs : List Loc) (ls : Array Slot), Ww E S s H locs → lv_has ls 6 [(0, .ref (E.ad 60)), (1, .int v1), (2, .int v2)] → X11_parts_L2 v1 n v2 S = some res → (∀ (T : St) (H : Heap) (locs : List Loc) (ls : Array Slot), some T = some res → Ww E T s H locs → lv_has ls 6 [(0, .ref (E.ad 60)), (1, .int v1)] → W p l e rm_X11_parts s m args below meth c H locs 0 0 Q (F0 m 20 ls [])) → W p l e rm_X11_parts s m args below meth c H locs 0 0 Q (F0 m 2 ls []) := by
    intro v1 res n
    induction n with
    | zero =>
      intro v2 S H locs ls hW hl hf
      cases hf
    | succ n ih =>
      intro v2 S H locs ls hW hl hf kE
      unfold X11_parts_L2 at hf
      refine lv_iload_n hx hb dX11_parts_2 rfl (lv_at hl 2 rfl) ?_
      refine lv_iload_n hx hb dX11_parts_3 rfl (lv_at hl 1 rfl) ?_
      refine lv_icmp_ge (tgt := 20) hx hb dX11_parts_4 (by decide) (fun c1 => ?_) (fun c1 => ?_)
      · replace hf := ift_ hf c1
        exact kE _ _ _ _ hf hW (lv_sub hl [0, 1] rfl)
      · replace hf := iff_ hf c1
        refine lv_aload_n hx hb dX11_parts_7 rfl (lv_at hl 0 rfl) ?_
        refine g_get (ci := 11) (k := 12) (val := .ref (E.ad 71)) C g_us hW rfl rfl rfl (in_sid _ rfl) (by decide) f_RX11_41 rfl dX11_parts_8 ?_
        refine lv_iload_n hx hb dX11_parts_11 rfl (lv_at hl 2 rfl) ?_
        refine lv_iconst (v := 1) hx hb dX11_parts_12 (by decide) ?_
        replace hf := bd_so hf
        obtain ⟨S2, h3, hf⟩ := hf
        refine g_iast C hW h3 dX11_parts_13 (fun H locs hW => ?_)
        refine lv_iinc (v := (v2 + 1)) (lv' := [(2, .int (v2 + 1)), (0, .ref (E.ad 60)), (1, .int v1)]) hx hb dX11_parts_14 hl (k := 2) rfl rfl (by decide) rfl (fun ls hl => ?_)
        refine lv_goto (tgt := 2) hx hb dX11_parts_17 (by decide) ?_
        exact ih _ _ _ _ _ hW (lv_sub hl [1, 2, 0] rfl) hf kE
  have X11_parts_L22_c : ∀ (v1 : Int32) (res : St) (n : Nat) (v2 : Int32) (S : St) (H : Heap) (locs : List Loc) (ls : Array Slot), Ww E S s H locs → lv_has ls 6 [(0, .ref (E.ad 60)), (1, .int v1), (2, .int v2)] → X11_parts_L22 v1 n v2 S = some res → (∀ (T : St) (H : Heap) (locs : List Loc) (ls : Array Slot), some T = some res → Ww E T s H locs → lv_has ls 6 [(0, .ref (E.ad 60)), (1, .int v1)] → W p l e rm_X11_parts s m args below meth c H locs 0 0 Q (F0 m 50 ls [])) → W p l e rm_X11_parts s m args below meth c H locs 0 0 Q (F0 m 22 ls []) := by
    intro v1 res n
    induction n with
    | zero =>
      intro v2 S H locs ls hW hl hf
      cases hf
    | succ n ih =>
      intro v2 S H locs ls hW hl hf kE
      unfold X11_parts_L22 at hf
      refine lv_iload_n hx hb dX11_parts_22 rfl (lv_at hl 2 rfl) ?_
      refine lv_iload_n hx hb dX11_parts_23 rfl (lv_at hl 1 rfl) ?_
      refine lv_iconst (v := 2) hx hb dX11_parts_24 (by decide) ?_
      refine lv_isub hx hb dX11_parts_25 ?_
      refine lv_icmp_ge (tgt := 50) hx hb dX11_parts_26 (by decide) (fun c6 => ?_) (fun c6 => ?_)
      · replace hf := ift_ hf c6
        exact kE _ _ _ _ hf hW (lv_sub hl [0, 1] rfl)
      · replace hf := iff_ hf c6
        refine lv_aload_n hx hb dX11_parts_29 rfl (lv_at hl 0 rfl) ?_
        refine g_get (ci := 11) (k := 12) (val := .ref (E.ad 71)) C g_us hW rfl rfl rfl (in_sid _ rfl) (by decide) f_RX11_41 rfl dX11_parts_30 ?_
        refine lv_aload_n hx hb dX11_parts_33 rfl (lv_at hl 0 rfl) ?_
        refine g_get (ci := 11) (k := 11) (val := .ref (E.ad 70)) C g_us hW rfl rfl rfl (in_sid _ rfl) (by decide) f_RX11_38 rfl dX11_parts_34 ?_
        refine lv_iload_n hx hb dX11_parts_37 rfl (lv_at hl 2 rfl) ?_
        replace hf := bd_so hf
        obtain ⟨x7, h8, hf⟩ := hf
        refine g_iald C hW h8 dX11_parts_38 ?_
        refine lv_dup2_11 hx hb dX11_parts_39 rfl rfl ?_
        replace hf := bd_so hf
        obtain ⟨x9, h10, hf⟩ := hf
        refine g_iald C hW h10 dX11_parts_40 ?_
        refine lv_iconst (v := 1) hx hb dX11_parts_41 (by decide) ?_
        refine lv_iadd hx hb dX11_parts_42 ?_
        replace hf := bd_so hf
        obtain ⟨S11, h12, hf⟩ := hf
        refine g_iast C hW h12 dX11_parts_43 (fun H locs hW => ?_)
        refine lv_iinc (v := (v2 + 1)) (lv' := [(2, .int (v2 + 1)), (0, .ref (E.ad 60)), (1, .int v1)]) hx hb dX11_parts_44 hl (k := 2) rfl rfl (by decide) rfl (fun ls hl => ?_)
        refine lv_goto (tgt := 22) hx hb dX11_parts_47 (by decide) ?_
        exact ih _ _ _ _ _ hW (lv_sub hl [1, 2, 0] rfl) hf kE
  have X11_parts_L54_c : ∀ (S : St) (v1 : Int32) (res : Int32) (n : Nat) (v2 : Int32) (v3 : Int32) (H : Heap) (locs : List Loc) (ls : Array Slot), Ww E S s H locs → lv_has ls 6 [(0, .ref (E.ad 60)), (1, .int v1), (2, .int v2), (3, .int v3)] → X11_parts_L54 S v1 n v2 v3 = some res → (∀ (w2 : Int32) (H : Heap) (locs : List Loc) (ls : Array Slot), some w2 = some res → Ww E S s H locs → lv_has ls 6 [(0, .ref (E.ad 60)), (1, .int v1), (2, .int w2)] → W p l e rm_X11_parts s m args below meth c H locs 0 0 Q (F0 m 92 ls [])) → W p l e rm_X11_parts s m args below meth c H locs 0 0 Q (F0 m 54 ls []) := by
    intro S v1 res n
    induction n with
    | zero =>
      intro v2 v3 H locs ls hW hl hf
      cases hf
    | succ n ih =>
      intro v2 v3 H locs ls hW hl hf kE
      unfold X11_parts_L54 at hf
      refine lv_iload_n hx hb dX11_parts_54 rfl (lv_at hl 3 rfl) ?_
      refine lv_iload_n hx hb dX11_parts_55 rfl (lv_at hl 1 rfl) ?_
      refine lv_icmp_ge (tgt := 92) hx hb dX11_parts_56 (by decide) (fun c15 => ?_) (fun c15 => ?_)
      · replace hf := ift_ hf c15
        exact kE _ _ _ _ hf hW (lv_sub hl [0, 1, 2] rfl)
      · replace hf := iff_ hf c15
        refine lv_iload_n hx hb dX11_parts_59 rfl (lv_at hl 2 rfl) ?_
        replace hf := bd_so hf
        obtain ⟨x17, h18, hf⟩ := hf
        have J19 : ∀ (H : Heap) (locs : List Loc) (ls : Array Slot), Ww E S s H locs → lv_has ls 6 [(0, .ref (E.ad 60)), (1, .int v1), (3, .int v3)] → W p l e rm_X11_parts s m args below meth c H locs 0 0 Q (F0 m 85 ls [.int x17]) := by
          intro H locs ls hW hl
          refine lv_istore_n (lv' := [(2, .int x17), (0, .ref (E.ad 60)), (1, .int v1), (3, .int v3)]) hx hb dX11_parts_85 rfl hl (by decide) rfl (fun ls hl => ?_)
          refine lv_iinc (v := (v3 + 1)) (lv' := [(3, .int (v3 + 1)), (2, .int x17), (0, .ref (E.ad 60)), (1, .int v1)]) hx hb dX11_parts_86 hl (k := 3) rfl rfl (by decide) rfl (fun ls hl => ?_)
          refine lv_goto (tgt := 54) hx hb dX11_parts_89 (by decide) ?_
          exact ih _ _ _ _ _ hW (lv_sub hl [2, 3, 1, 0] rfl) hf kE
        clear hf
        have hf := h18
        clear h18
        refine lv_if_eq (tgt := 84) hx hb dX11_parts_60 (by decide) (fun c16 => ?_) (fun c16 => ?_)
        · replace hf := ift_ hf c16
          refine lv_iconst (v := 0) hx hb dX11_parts_84 (by decide) ?_
          obtain rfl := so1 hf
          exact J19 _ _ _ hW (lv_sub hl [0, 1, 3] rfl)
        · replace hf := iff_ hf c16
          refine lv_aload_n hx hb dX11_parts_63 rfl (lv_at hl 0 rfl) ?_
          refine g_get (ci := 11) (k := 12) (val := .ref (E.ad 71)) C g_us hW rfl rfl rfl (in_sid _ rfl) (by decide) f_RX11_41 rfl dX11_parts_64 ?_
          refine lv_iload_n hx hb dX11_parts_67 rfl (lv_at hl 3 rfl) ?_
          replace hf := bd_so hf
          obtain ⟨x20, h21, hf⟩ := hf
          refine g_iald C hW h21 dX11_parts_68 ?_
          refine lv_aload_n hx hb dX11_parts_69 rfl (lv_at hl 0 rfl) ?_
          refine g_get (ci := 11) (k := 0) (val := .ref (E.ad 61)) C g_us hW rfl rfl rfl (in_sid _ rfl) (by decide) f_RX11_7 rfl dX11_parts_70 ?_
          refine lv_sipush (v := 131) hx hb dX11_parts_73 (by decide) ?_
          replace hf := bd_so hf
          obtain ⟨x22, h23, hf⟩ := hf
          refine g_iald C hW h23 dX11_parts_76 ?_
          refine lv_icmp_gt (tgt := 84) hx hb dX11_parts_77 (by decide) (fun c24 => ?_) (fun c24 => ?_)
          · replace hf := ift_ hf c24
            refine lv_iconst (v := 0) hx hb dX11_parts_84 (by decide) ?_
            obtain rfl := so1 hf
            exact J19 _ _ _ hW (lv_sub hl [0, 1, 3] rfl)
          · replace hf := iff_ hf c24
            refine lv_iconst (v := 1) hx hb dX11_parts_80 (by decide) ?_
            refine lv_goto (tgt := 85) hx hb dX11_parts_81 (by decide) ?_
            obtain rfl := so1 hf
            exact J19 _ _ _ hW (lv_sub hl [0, 1, 3] rfl)
  have X11_parts_L108_c : ∀ (S : St) (v1 : Int32) (v2 : Int32) (v3 : Int32) (v4 : Int32) (res : Int32) (n : Nat) (v5 : Int32) (H : Heap) (locs : List Loc) (ls : Array Slot), Ww E S s H locs → lv_has ls 6 [(0, .ref (E.ad 60)), (1, .int v1), (2, .int v2), (3, .int v3), (4, .int v4), (5, .int v5)] → X11_parts_L108 S v1 v2 v3 v4 n v5 = some res → (∀ (w5 : Int32) (H : Heap) (locs : List Loc) (ls : Array Slot), some w5 = some res → Ww E S s H locs → lv_has ls 6 [(0, .ref (E.ad 60)), (1, .int v1), (2, .int v2), (3, .int v3), (4, .int v4), (5, .int w5)] → W p l e rm_X11_parts s m args below meth c H locs 0 0 Q (F0 m 125 ls [])) → W p l e rm_X11_parts s m args below meth c H locs 0 0 Q (F0 m 108 ls []) := by
    intro S v1 v2 v3 v4 res n
    induction n with
    | zero =>
      intro v5 H locs ls hW hl hf
      cases hf
    | succ n ih =>
      intro v5 H locs ls hW hl hf kE
      unfold X11_parts_L108 at hf
      refine lv_aload_n hx hb dX11_parts_108 rfl (lv_at hl 0 rfl) ?_
      refine g_get (ci := 11) (k := 12) (val := .ref (E.ad 71)) C g_us hW rfl rfl rfl (in_sid _ rfl) (by decide) f_RX11_41 rfl dX11_parts_109 ?_
      refine lv_iload hx hb dX11_parts_112 (lv_at hl 5 rfl) ?_
      replace hf := bd_so hf
      obtain ⟨x28, h29, hf⟩ := hf
      refine g_iald C hW h29 dX11_parts_114 ?_
      refine lv_iconst (v := 1) hx hb dX11_parts_115 (by decide) ?_
      refine lv_icmp_eq (tgt := 125) hx hb dX11_parts_116 (by decide) (fun c30 => ?_) (fun c30 => ?_)
      · replace hf := ift_ hf c30
        exact kE _ _ _ _ hf hW (lv_sub hl [0, 1, 2, 3, 4, 5] rfl)
      · replace hf := iff_ hf c30
        refine lv_iinc (v := (v5 + 1)) (lv' := [(5, .int (v5 + 1)), (0, .ref (E.ad 60)), (1, .int v1), (2, .int v2), (3, .int v3), (4, .int v4)]) hx hb dX11_parts_119 hl (k := 5) rfl rfl (by decide) rfl (fun ls hl => ?_)
        refine lv_goto (tgt := 108) hx hb dX11_parts_122 (by decide) ?_
        exact ih _ _ _ _ hW (lv_sub hl [1, 2, 3, 4, 5, 0] rfl) hf kE
  have X11_parts_L97_c : ∀ (v1 : Int32) (v2 : Int32) (res : Int32 × St) (n : Nat) (v3 : Int32) (v4 : Int32) (S : St) (H : Heap) (locs : List Loc) (ls : Array Slot), Ww E S s H locs → lv_has ls 6 [(0, .ref (E.ad 60)), (1, .int v1), (2, .int v2), (3, .int v3), (4, .int v4)] → X11_parts_L97 v1 v2 n v3 v4 S = some res → (∀ (w3 : Int32) (T : St) (H : Heap) (locs : List Loc) (ls : Array Slot), some (w3, T) = some res → Ww E T s H locs → lv_has ls 6 [(0, .ref (E.ad 60)), (2, .int v2), (3, .int w3)] → W p l e rm_X11_parts s m args below meth c H locs 0 0 Q (F0 m 185 ls [])) → W p l e rm_X11_parts s m args below meth c H locs 0 0 Q (F0 m 97 ls []) := by
    intro v1 v2 res n
    induction n with
    | zero =>
      intro v3 v4 S H locs ls hW hl hf
      cases hf
    | succ n ih =>
      intro v3 v4 S H locs ls hW hl hf kE
      unfold X11_parts_L97 at hf
      refine lv_iload hx hb dX11_parts_97 (lv_at hl 4 rfl) ?_
      refine lv_iload_n hx hb dX11_parts_99 rfl (lv_at hl 1 rfl) ?_
      refine lv_iconst (v := 2) hx hb dX11_parts_100 (by decide) ?_
      refine lv_isub hx hb dX11_parts_101 ?_
      refine lv_icmp_ge (tgt := 185) hx hb dX11_parts_102 (by decide) (fun c27 => ?_) (fun c27 => ?_)
      · replace hf := ift_ hf c27
        exact kE _ _ _ _ _ hf hW (lv_sub hl [0, 2, 3] rfl)
      · replace hf := iff_ hf c27
        refine lv_iconst (v := 0) hx hb dX11_parts_105 (by decide) ?_
        refine lv_istore (lv' := [(5, .int 0), (0, .ref (E.ad 60)), (1, .int v1), (2, .int v2), (3, .int v3), (4, .int v4)]) hx hb dX11_parts_106 hl (by decide) rfl (fun ls hl => ?_)
        replace hf := bd_so hf
        obtain ⟨x31, h32, hf⟩ := hf
        have J47 : ∀ (H : Heap) (locs : List Loc) (ls : Array Slot), Ww E S s H locs → lv_has ls 6 [(0, .ref (E.ad 60)), (1, .int v1), (2, .int v2), (3, .int v3), (4, .int v4), (5, .int x31)] → W p l e rm_X11_parts s m args below meth c H locs 0 0 Q (F0 m 125 ls []) := by
          intro H locs ls hW hl
          refine lv_aload_n hx hb dX11_parts_125 rfl (lv_at hl 0 rfl) ?_
          refine g_get (ci := 11) (k := 13) (val := .ref (E.ad 72)) C g_us hW rfl rfl rfl (in_sid _ rfl) (by decide) f_RX11_44 rfl dX11_parts_126 ?_
          refine lv_iconst (v := 2) hx hb dX11_parts_129 (by decide) ?_
          refine lv_iload_n hx hb dX11_parts_130 rfl (lv_at hl 3 rfl) ?_
          refine lv_imul hx hb dX11_parts_131 ?_
          refine lv_iload hx hb dX11_parts_132 (lv_at hl 5 rfl) ?_
          replace hf := bd_so hf
          obtain ⟨S33, h34, hf⟩ := hf
          refine g_iast C hW h34 dX11_parts_134 (fun H locs hW => ?_)
          refine lv_aload_n hx hb dX11_parts_135 rfl (lv_at hl 0 rfl) ?_
          refine g_get (ci := 11) (k := 13) (val := .ref (E.ad 72)) C g_us hW rfl rfl rfl (in_sid _ rfl) (by decide) f_RX11_44 rfl dX11_parts_136 ?_
          refine lv_iconst (v := 2) hx hb dX11_parts_139 (by decide) ?_
          refine lv_iload_n hx hb dX11_parts_140 rfl (lv_at hl 3 rfl) ?_
          refine lv_imul hx hb dX11_parts_141 ?_
          refine lv_iconst (v := 1) hx hb dX11_parts_142 (by decide) ?_
          refine lv_iadd hx hb dX11_parts_143 ?_
          refine lv_aload_n hx hb dX11_parts_144 rfl (lv_at hl 0 rfl) ?_
          refine g_get (ci := 11) (k := 11) (val := .ref (E.ad 70)) C g_us hW rfl rfl rfl (in_sid _ rfl) (by decide) f_RX11_38 rfl dX11_parts_145 ?_
          refine lv_iload hx hb dX11_parts_148 (lv_at hl 4 rfl) ?_
          replace hf := bd_so hf
          obtain ⟨x35, h36, hf⟩ := hf
          refine g_iald C hW h36 dX11_parts_150 ?_
          replace hf := bd_so hf
          obtain ⟨S37, h38, hf⟩ := hf
          refine g_iast C hW h38 dX11_parts_151 (fun H locs hW => ?_)
          refine lv_iinc (v := (v3 + 1)) (lv' := [(3, .int (v3 + 1)), (0, .ref (E.ad 60)), (1, .int v1), (2, .int v2), (4, .int v4), (5, .int x31)]) hx hb dX11_parts_152 hl (k := 3) rfl rfl (by decide) rfl (fun ls hl => ?_)
          refine lv_aload_n hx hb dX11_parts_155 rfl (lv_at hl 1 rfl) ?_
          refine g_get (ci := 11) (k := 12) (val := .ref (E.ad 71)) C g_us hW rfl rfl rfl (in_sid _ rfl) (by decide) f_RX11_41 rfl dX11_parts_156 ?_
          refine lv_iload hx hb dX11_parts_159 (lv_at hl 5 rfl) ?_
          refine lv_iconst (v := 0) hx hb dX11_parts_161 (by decide) ?_
          replace hf := bd_so hf
          obtain ⟨S39, h40, hf⟩ := hf
          refine g_iast C hW h40 dX11_parts_162 (fun H locs hW => ?_)
          refine lv_aload_n hx hb dX11_parts_163 rfl (lv_at hl 1 rfl) ?_
          refine g_get (ci := 11) (k := 12) (val := .ref (E.ad 71)) C g_us hW rfl rfl rfl (in_sid _ rfl) (by decide) f_RX11_41 rfl dX11_parts_164 ?_
          refine lv_aload_n hx hb dX11_parts_167 rfl (lv_at hl 1 rfl) ?_
          refine g_get (ci := 11) (k := 11) (val := .ref (E.ad 70)) C g_us hW rfl rfl rfl (in_sid _ rfl) (by decide) f_RX11_38 rfl dX11_parts_168 ?_
          refine lv_iload hx hb dX11_parts_171 (lv_at hl 4 rfl) ?_
          replace hf := bd_so hf
          obtain ⟨x41, h42, hf⟩ := hf
          refine g_iald C hW h42 dX11_parts_173 ?_
          refine lv_dup2_11 hx hb dX11_parts_174 rfl rfl ?_
          replace hf := bd_so hf
          obtain ⟨x43, h44, hf⟩ := hf
          refine g_iald C hW h44 dX11_parts_175 ?_
          refine lv_iconst (v := 1) hx hb dX11_parts_176 (by decide) ?_
          refine lv_isub hx hb dX11_parts_177 ?_
          replace hf := bd_so hf
          obtain ⟨S45, h46, hf⟩ := hf
          refine g_iast C hW h46 dX11_parts_178 (fun H locs hW => ?_)
          refine lv_iinc (v := (v4 + 1)) (lv' := [(4, .int (v4 + 1)), (3, .int (v3 + 1)), (0, .ref (E.ad 60)), (1, .int v1), (2, .int v2), (5, .int x31)]) hx hb dX11_parts_179 hl (k := 4) rfl rfl (by decide) rfl (fun ls hl => ?_)
          refine lv_goto (tgt := 97) hx hb dX11_parts_182 (by decide) ?_
          exact ih _ _ _ _ _ _ hW (lv_sub hl [2, 3, 4, 1, 0] rfl) hf kE
        exact X11_parts_L108_c _ _ _ _ _ _ FU _ _ _ _ hW (lv_sub hl [1, 2, 3, 4, 5, 0] rfl) h32 (fun _ H locs ls e hW hl => by cases e; exact J47 H locs ls hW hl)
  have X11_parts_L188_c : ∀ (S : St) (v2 : Int32) (v3 : Int32) (res : Int32) (n : Nat) (v4 : Int32) (H : Heap) (locs : List Loc) (ls : Array Slot), Ww E S s H locs → lv_has ls 6 [(0, .ref (E.ad 60)), (2, .int v2), (3, .int v3), (4, .int v4)] → X11_parts_L188 S v2 v3 n v4 = some res → (∀ (w4 : Int32) (H : Heap) (locs : List Loc) (ls : Array Slot), some w4 = some res → Ww E S s H locs → lv_has ls 6 [(0, .ref (E.ad 60)), (2, .int v2), (3, .int v3), (4, .int w4)] → W p l e rm_X11_parts s m args below meth c H locs 0 0 Q (F0 m 205 ls [])) → W p l e rm_X11_parts s m args below meth c H locs 0 0 Q (F0 m 188 ls []) := by
    intro S v2 v3 res n
    induction n with
    | zero =>
      intro v4 H locs ls hW hl hf
      cases hf
    | succ n ih =>
      intro v4 H locs ls hW hl hf kE
      unfold X11_parts_L188 at hf
      refine lv_aload_n hx hb dX11_parts_188 rfl (lv_at hl 0 rfl) ?_
      refine g_get (ci := 11) (k := 12) (val := .ref (E.ad 71)) C g_us hW rfl rfl rfl (in_sid _ rfl) (by decide) f_RX11_41 rfl dX11_parts_189 ?_
      refine lv_iload hx hb dX11_parts_192 (lv_at hl 3 rfl) ?_
      replace hf := bd_so hf
      obtain ⟨x51, h52, hf⟩ := hf
      refine g_iald C hW h52 dX11_parts_194 ?_
      refine lv_iconst (v := 1) hx hb dX11_parts_195 (by decide) ?_
      refine lv_icmp_eq (tgt := 205) hx hb dX11_parts_196 (by decide) (fun c53 => ?_) (fun c53 => ?_)
      · replace hf := ift_ hf c53
        exact kE _ _ _ _ hf hW (lv_sub hl [0, 1, 2, 3] rfl)
      · replace hf := iff_ hf c53
        refine lv_iinc (v := (v4 + 1)) (lv' := [(4, .int (v4 + 1)), (0, .ref (E.ad 60)), (2, .int v2), (3, .int v3)]) hx hb dX11_parts_199 hl (k := 3) rfl rfl (by decide) rfl (fun ls hl => ?_)
        refine lv_goto (tgt := 188) hx hb dX11_parts_202 (by decide) ?_
        exact ih _ _ _ _ hW (lv_sub hl [1, 2, 3, 0] rfl) hf kE
  have X11_parts_L211_c : ∀ (S : St) (v2 : Int32) (v3 : Int32) (v4 : Int32) (res : Int32) (n : Nat) (v5 : Int32) (H : Heap) (locs : List Loc) (ls : Array Slot), Ww E S s H locs → lv_has ls 6 [(0, .ref (E.ad 60)), (2, .int v2), (3, .int v3), (4, .int v4), (5, .int v5)] → X11_parts_L211 S v2 v3 v4 n v5 = some res → (∀ (w5 : Int32) (H : Heap) (locs : List Loc) (ls : Array Slot), some w5 = some res → Ww E S s H locs → lv_has ls 6 [(0, .ref (E.ad 60)), (2, .int v2), (3, .int v3), (4, .int v4), (5, .int w5)] → W p l e rm_X11_parts s m args below meth c H locs 0 0 Q (F0 m 228 ls [])) → W p l e rm_X11_parts s m args below meth c H locs 0 0 Q (F0 m 211 ls []) := by
    intro S v2 v3 v4 res n
    induction n with
    | zero =>
      intro v5 H locs ls hW hl hf
      cases hf
    | succ n ih =>
      intro v5 H locs ls hW hl hf kE
      unfold X11_parts_L211 at hf
      refine lv_aload_n hx hb dX11_parts_211 rfl (lv_at hl 0 rfl) ?_
      refine g_get (ci := 11) (k := 12) (val := .ref (E.ad 71)) C g_us hW rfl rfl rfl (in_sid _ rfl) (by decide) f_RX11_41 rfl dX11_parts_212 ?_
      refine lv_iload hx hb dX11_parts_215 (lv_at hl 4 rfl) ?_
      replace hf := bd_so hf
      obtain ⟨x56, h57, hf⟩ := hf
      refine g_iald C hW h57 dX11_parts_217 ?_
      refine lv_iconst (v := 1) hx hb dX11_parts_218 (by decide) ?_
      refine lv_icmp_eq (tgt := 228) hx hb dX11_parts_219 (by decide) (fun c58 => ?_) (fun c58 => ?_)
      · replace hf := ift_ hf c58
        exact kE _ _ _ _ hf hW (lv_sub hl [0, 1, 2, 3, 4] rfl)
      · replace hf := iff_ hf c58
        refine lv_iinc (v := (v5 + 1)) (lv' := [(5, .int (v5 + 1)), (0, .ref (E.ad 60)), (2, .int v2), (3, .int v3), (4, .int v4)]) hx hb dX11_parts_222 hl (k := 4) rfl rfl (by decide) rfl (fun ls hl => ?_)
        refine lv_goto (tgt := 211) hx hb dX11_parts_225 (by decide) ?_
        exact ih _ _ _ _ hW (lv_sub hl [1, 2, 3, 4, 0] rfl) hf kE
  unfold X11_parts at hf
  refine lv_iconst (v := 0) hx hb dX11_parts_0 (by decide) ?_
  refine lv_istore_n (lv' := [(2, .int 0), (0, .ref (E.ad 60)), (1, .int a1)]) hx hb dX11_parts_1 rfl hl (by decide) rfl (fun ls hl => ?_)
  replace hf := bd_so hf
  obtain ⟨S4, h5, hf⟩ := hf
  have J70 : ∀ (H : Heap) (locs : List Loc) (ls : Array Slot), Ww E S4 s H locs → lv_has ls 6 [(0, .ref (E.ad 60)), (1, .int a1)] → W p l e rm_X11_parts s m args below meth c H locs 0 0 Q (F0 m 20 ls []) := by
    intro H locs ls hW hl
    refine lv_iconst (v := 0) hx hb dX11_parts_20 (by decide) ?_
    refine lv_istore_n (lv' := [(2, .int 0), (0, .ref (E.ad 60)), (1, .int a1)]) hx hb dX11_parts_21 rfl hl (by decide) rfl (fun ls hl => ?_)
    replace hf := bd_so hf
    obtain ⟨S13, h14, hf⟩ := hf
    have J69 : ∀ (H : Heap) (locs : List Loc) (ls : Array Slot), Ww E S13 s H locs → lv_has ls 6 [(0, .ref (E.ad 60)), (1, .int a1)] → W p l e rm_X11_parts s m args below meth c H locs 0 0 Q (F0 m 50 ls []) := by
      intro H locs ls hW hl
      refine lv_iconst (v := 1) hx hb dX11_parts_50 (by decide) ?_
      refine lv_istore_n (lv' := [(2, .int 1), (0, .ref (E.ad 60)), (1, .int a1)]) hx hb dX11_parts_51 rfl hl (by decide) rfl (fun ls hl => ?_)
      refine lv_iconst (v := 0) hx hb dX11_parts_52 (by decide) ?_
      refine lv_istore_n (lv' := [(3, .int 0), (2, .int 1), (0, .ref (E.ad 60)), (1, .int a1)]) hx hb dX11_parts_53 rfl hl (by decide) rfl (fun ls hl => ?_)
      replace hf := bd_so hf
      obtain ⟨x25, h26, hf⟩ := hf
      have J68 : ∀ (H : Heap) (locs : List Loc) (ls : Array Slot), Ww E S13 s H locs → lv_has ls 6 [(0, .ref (E.ad 60)), (1, .int a1), (2, .int x25)] → W p l e rm_X11_parts s m args below meth c H locs 0 0 Q (F0 m 92 ls []) := by
        intro H locs ls hW hl
        refine lv_iconst (v := 0) hx hb dX11_parts_92 (by decide) ?_
        refine lv_istore_n (lv' := [(3, .int 0), (0, .ref (E.ad 60)), (1, .int a1), (2, .int x25)]) hx hb dX11_parts_93 rfl hl (by decide) rfl (fun ls hl => ?_)
        refine lv_iconst (v := 0) hx hb dX11_parts_94 (by decide) ?_
        refine lv_istore (lv' := [(4, .int 0), (3, .int 0), (0, .ref (E.ad 60)), (1, .int a1), (2, .int x25)]) hx hb dX11_parts_95 hl (by decide) rfl (fun ls hl => ?_)
        replace hf := bd_so hf
        obtain ⟨⟨x48, S49⟩, h50, hf⟩ := hf
        dsimp only at hf
        have J67 : ∀ (H : Heap) (locs : List Loc) (ls : Array Slot), Ww E S49 s H locs → lv_has ls 6 [(0, .ref (E.ad 60)), (2, .int x25), (3, .int x48)] → W p l e rm_X11_parts s m args below meth c H locs 0 0 Q (F0 m 185 ls []) := by
          intro H locs ls hW hl
          refine lv_iconst (v := 0) hx hb dX11_parts_185 (by decide) ?_
          refine lv_istore (lv' := [(4, .int 0), (0, .ref (E.ad 60)), (2, .int x25), (3, .int x48)]) hx hb dX11_parts_186 hl (by decide) rfl (fun ls hl => ?_)
          replace hf := bd_so hf
          obtain ⟨x54, h55, hf⟩ := hf
          have J66 : ∀ (H : Heap) (locs : List Loc) (ls : Array Slot), Ww E S49 s H locs → lv_has ls 6 [(0, .ref (E.ad 60)), (2, .int x25), (3, .int x48), (4, .int x54)] → W p l e rm_X11_parts s m args below meth c H locs 0 0 Q (F0 m 205 ls []) := by
            intro H locs ls hW hl
            refine lv_iload hx hb dX11_parts_205 (lv_at hl 3 rfl) ?_
            refine lv_iconst (v := 1) hx hb dX11_parts_207 (by decide) ?_
            refine lv_iadd hx hb dX11_parts_208 ?_
            refine lv_istore (lv' := [(5, .int (x54 + 1)), (0, .ref (E.ad 60)), (2, .int x25), (3, .int x48), (4, .int x54)]) hx hb dX11_parts_209 hl (by decide) rfl (fun ls hl => ?_)
            replace hf := bd_so hf
            obtain ⟨x59, h60, hf⟩ := hf
            have J65 : ∀ (H : Heap) (locs : List Loc) (ls : Array Slot), Ww E S49 s H locs → lv_has ls 6 [(0, .ref (E.ad 60)), (2, .int x25), (3, .int x48), (4, .int x54), (5, .int x59)] → W p l e rm_X11_parts s m args below meth c H locs 0 0 Q (F0 m 228 ls []) := by
              intro H locs ls hW hl
              refine lv_aload_n hx hb dX11_parts_228 rfl (lv_at hl 0 rfl) ?_
              refine g_get (ci := 11) (k := 13) (val := .ref (E.ad 72)) C g_us hW rfl rfl rfl (in_sid _ rfl) (by decide) f_RX11_44 rfl dX11_parts_229 ?_
              refine lv_iconst (v := 2) hx hb dX11_parts_232 (by decide) ?_
              refine lv_iload_n hx hb dX11_parts_233 rfl (lv_at hl 2 rfl) ?_
              refine lv_imul hx hb dX11_parts_234 ?_
              refine lv_iload hx hb dX11_parts_235 (lv_at hl 3 rfl) ?_
              replace hf := bd_so hf
              obtain ⟨S61, h62, hf⟩ := hf
              refine g_iast C hW h62 dX11_parts_237 (fun H locs hW => ?_)
              refine lv_aload_n hx hb dX11_parts_238 rfl (lv_at hl 0 rfl) ?_
              refine g_get (ci := 11) (k := 13) (val := .ref (E.ad 72)) C g_us hW rfl rfl rfl (in_sid _ rfl) (by decide) f_RX11_44 rfl dX11_parts_239 ?_
              refine lv_iconst (v := 2) hx hb dX11_parts_242 (by decide) ?_
              refine lv_iload_n hx hb dX11_parts_243 rfl (lv_at hl 2 rfl) ?_
              refine lv_imul hx hb dX11_parts_244 ?_
              refine lv_iconst (v := 1) hx hb dX11_parts_245 (by decide) ?_
              refine lv_iadd hx hb dX11_parts_246 ?_
              refine lv_iload hx hb dX11_parts_247 (lv_at hl 4 rfl) ?_
              replace hf := bd_so hf
              obtain ⟨S63, h64, hf⟩ := hf
              refine g_iast C hW h64 dX11_parts_249 (fun H locs hW => ?_)
              refine lv_iload_n hx hb dX11_parts_250 rfl (lv_at hl 1 rfl) ?_
              obtain ⟨rfl, rfl⟩ := so2 hf
              exact kR _ _ _ _ hW (zb_X11_parts_L54 h26) dX11_parts_251
            exact X11_parts_L211_c _ _ _ _ _ FU _ _ _ _ hW (lv_sub hl [1, 2, 3, 4, 0] rfl) h60 (fun _ H locs ls e hW hl => by cases e; exact J65 H locs ls hW hl)
          exact X11_parts_L188_c _ _ _ _ FU _ _ _ _ hW (lv_sub hl [1, 2, 3, 0] rfl) h55 (fun _ H locs ls e hW hl => by cases e; exact J66 H locs ls hW hl)
        exact X11_parts_L97_c _ _ _ FU _ _ _ _ _ _ hW (lv_sub hl [2, 3, 4, 1, 0] rfl) h50 (fun _ _ H locs ls e hW hl => by cases e; exact J67 H locs ls hW hl)
      exact X11_parts_L54_c _ _ _ FU _ _ _ _ _ hW (lv_sub hl [2, 3, 1, 0] rfl) h26 (fun _ H locs ls e hW hl => by cases e; exact J68 H locs ls hW hl)
    exact X11_parts_L22_c _ _ FU _ _ _ _ _ hW (lv_sub hl [1, 2, 0] rfl) h14 (fun _ H locs ls e hW hl => by cases e; exact J69 H locs ls hW hl)
  exact X11_parts_L2_c _ _ FU _ _ _ _ _ hW (lv_sub hl [1, 2, 0] rfl) h5 (fun _ H locs ls e hW hl => by cases e; exact J70 H locs ls hW hl)

abbrev rm_X11_waitOf : Room := { frames := 2, cells := 0, slots := 0, locals := 82 }
set_option maxHeartbeats 4000000 in
set_option maxRecDepth 100000 in
theorem c_X11_waitOf (l : Launch) (E : En) (S : St) (a1 : Int32) (r : Int32) (S1 : St) (hf : X11_waitOf S a1 = some (r, S1)) : Mi l E yX11_waitOf cX11_waitOf 8 (some .int) rm_X11_waitOf [.ref (E.ad 60), .int a1] S r S1 := by
  refine g_startI (cc := cX11_waitOf) (n := 8) (by decide) (Nat.le_of_ble_eq_true rfl) ?_
  intro p e s m args below meth c Q H locs C kR hW ls hl
  obtain ⟨⟨hx, hb, hml, hown, hts⟩, hK, hT⟩ := id C
  have hl : lv_has ls 8 [(0, .ref (E.ad 60)), (1, .int a1)] := hl
  have X11_waitOf_L2_c : ∀ (v1 : Int32) (res : St) (n : Nat) (v2 : Int32) (S : St) (H : Heap) (locs : List Loc) (ls : Array Slot), Ww E S s H locs → lv_has ls 8 [(0, .ref (E.ad 60)), (1, .int v1), (2, .int v2)] → X11_waitOf_L2 v1 n v2 S = some res → (∀ (T : St) (H : Heap) (locs : List Loc) (ls : Array Slot), some T = some res → Ww E T s H locs → lv_has ls 8 [(0, .ref (E.ad 60)), (1, .int v1)] → W p l e rm_X11_waitOf s m args below meth c H locs 0 0 Q (F0 m 32 ls [])) → W p l e rm_X11_waitOf s m args below meth c H locs 0 0 Q (F0 m 2 ls []) := by
    intro v1 res n
    induction n with
    | zero =>
      intro v2 S H locs ls hW hl hf
      cases hf
    | succ n ih =>
      intro v2 S H locs ls hW hl hf kE
      unfold X11_waitOf_L2 at hf
      refine lv_iload_n hx hb dX11_waitOf_2 rfl (lv_at hl 2 rfl) ?_
      refine lv_bipush (v := 36) hx hb dX11_waitOf_3 (by decide) ?_
      refine lv_icmp_ge (tgt := 32) hx hb dX11_waitOf_5 (by decide) (fun c1 => ?_) (fun c1 => ?_)
      · replace hf := ift_ hf c1
        exact kE _ _ _ _ hf hW (lv_sub hl [0, 1] rfl)
      · replace hf := iff_ hf c1
        refine lv_aload_n hx hb dX11_waitOf_8 rfl (lv_at hl 0 rfl) ?_
        refine g_get (ci := 11) (k := 14) (val := .ref (E.ad 73)) C g_us hW rfl rfl rfl (in_sid _ rfl) (by decide) f_RX11_47 rfl dX11_waitOf_9 ?_
        refine lv_iload_n hx hb dX11_waitOf_12 rfl (lv_at hl 2 rfl) ?_
        refine lv_iload_n hx hb dX11_waitOf_13 rfl (lv_at hl 2 rfl) ?_
        refine lv_bipush (v := 7) hx hb dX11_waitOf_14 (by decide) ?_
        replace hf := bd_so hf
        obtain ⟨x2, h3, hf⟩ := hf
        refine g_irem C h3 dX11_waitOf_16 ?_
        replace hf := bd_so hf
        obtain ⟨x5, h6, hf⟩ := hf
        have J7 : ∀ (H : Heap) (locs : List Loc) (ls : Array Slot), Ww E S s H locs → lv_has ls 8 [(0, .ref (E.ad 60)), (1, .int v1), (2, .int v2)] → W p l e rm_X11_waitOf s m args below meth c H locs 0 0 Q (F0 m 25 ls [.int x5, .int v2, .ref (E.ad 73)]) := by
          intro H locs ls hW hl
          replace hf := bd_so hf
          obtain ⟨S8, h9, hf⟩ := hf
          refine g_iast C hW h9 dX11_waitOf_25 (fun H locs hW => ?_)
          refine lv_iinc (v := (v2 + 1)) (lv' := [(2, .int (v2 + 1)), (0, .ref (E.ad 60)), (1, .int v1)]) hx hb dX11_waitOf_26 hl (k := 2) rfl rfl (by decide) rfl (fun ls hl => ?_)
          refine lv_goto (tgt := 2) hx hb dX11_waitOf_29 (by decide) ?_
          exact ih _ _ _ _ _ hW (lv_sub hl [1, 2, 0] rfl) hf kE
        clear hf
        have hf := h6
        clear h6
        refine lv_if_ne (tgt := 24) hx hb dX11_waitOf_17 (by decide) (fun c4 => ?_) (fun c4 => ?_)
        · replace hf := iff_ hf c4
          refine lv_iconst (v := (-1)) hx hb dX11_waitOf_24 (by decide) ?_
          obtain rfl := so1 hf
          exact J7 _ _ _ hW (lv_sub hl [0, 1, 2] rfl)
        · replace hf := ift_ hf c4
          refine lv_iconst (v := 0) hx hb dX11_waitOf_20 (by decide) ?_
          refine lv_goto (tgt := 25) hx hb dX11_waitOf_21 (by decide) ?_
          obtain rfl := so1 hf
          exact J7 _ _ _ hW (lv_sub hl [0, 1, 2] rfl)
  have X11_waitOf_L115_c : ∀ (v1 : Int32) (v2 : Int32) (v3 : Int32) (v4 : Int32) (v5 : Int32) (v6 : Int32) (res : St) (n : Nat) (v7 : Int32) (S : St) (H : Heap) (locs : List Loc) (ls : Array Slot), Ww E S s H locs → lv_has ls 8 [(0, .ref (E.ad 60)), (1, .int v1), (2, .int v2), (3, .int v3), (4, .int v4), (5, .int v5), (6, .int v6), (7, .int v7)] → X11_waitOf_L115 v1 v2 v3 v4 v5 v6 n v7 S = some res → (∀ (T : St) (H : Heap) (locs : List Loc) (ls : Array Slot), some T = some res → Ww E T s H locs → lv_has ls 8 [(0, .ref (E.ad 60)), (1, .int v1), (2, .int v2)] → W p l e rm_X11_waitOf s m args below meth c H locs 0 0 Q (F0 m 205 ls [])) → W p l e rm_X11_waitOf s m args below meth c H locs 0 0 Q (F0 m 115 ls []) := by
    intro v1 v2 v3 v4 v5 v6 res n
    induction n with
    | zero =>
      intro v7 S H locs ls hW hl hf
      cases hf
    | succ n ih =>
      intro v7 S H locs ls hW hl hf kE
      unfold X11_waitOf_L115 at hf
      refine lv_iload hx hb dX11_waitOf_115 (lv_at hl 7 rfl) ?_
      refine lv_iload_n hx hb dX11_waitOf_117 rfl (lv_at hl 1 rfl) ?_
      refine lv_icmp_ge (tgt := 205) hx hb dX11_waitOf_118 (by decide) (fun c31 => ?_) (fun c31 => ?_)
      · replace hf := ift_ hf c31
        exact kE _ _ _ _ hf hW (lv_sub hl [0, 1, 2] rfl)
      · replace hf := iff_ hf c31
        refine lv_iload hx hb dX11_waitOf_121 (lv_at hl 7 rfl) ?_
        refine lv_iload_n hx hb dX11_waitOf_123 rfl (lv_at hl 3 rfl) ?_
        replace hf := bd_so hf
        obtain ⟨S33, h34, hf⟩ := hf
        have J35 : ∀ (H : Heap) (locs : List Loc) (ls : Array Slot), Ww E S33 s H locs → lv_has ls 8 [(0, .ref (E.ad 60)), (1, .int v1), (2, .int v2), (3, .int v3), (4, .int v4), (5, .int v5), (6, .int v6), (7, .int v7)] → W p l e rm_X11_waitOf s m args below meth c H locs 0 0 Q (F0 m 199 ls []) := by
          intro H locs ls hW hl
          refine lv_iinc (v := (v7 + 1)) (lv' := [(7, .int (v7 + 1)), (0, .ref (E.ad 60)), (1, .int v1), (2, .int v2), (3, .int v3), (4, .int v4), (5, .int v5), (6, .int v6)]) hx hb dX11_waitOf_199 hl (k := 7) rfl rfl (by decide) rfl (fun ls hl => ?_)
          refine lv_goto (tgt := 115) hx hb dX11_waitOf_202 (by decide) ?_
          exact ih _ _ _ _ _ hW (lv_sub hl [1, 2, 3, 4, 5, 6, 7, 0] rfl) hf kE
        clear hf
        have hf := h34
        clear h34
        refine lv_icmp_eq (tgt := 199) hx hb dX11_waitOf_124 (by decide) (fun c32 => ?_) (fun c32 => ?_)
        · replace hf := ift_ hf c32
          obtain rfl := so1 hf
          exact J35 _ _ _ hW (lv_sub hl [0, 1, 2, 3, 4, 5, 6, 7] rfl)
        · replace hf := iff_ hf c32
          refine lv_aload_n hx hb dX11_waitOf_127 rfl (lv_at hl 0 rfl) ?_
          refine g_get (ci := 11) (k := 14) (val := .ref (E.ad 73)) C g_us hW rfl rfl rfl (in_sid _ rfl) (by decide) f_RX11_47 rfl dX11_waitOf_128 ?_
          refine lv_bipush (v := 6) hx hb dX11_waitOf_131 (by decide) ?_
          refine lv_iload hx hb dX11_waitOf_133 (lv_at hl 4 rfl) ?_
          refine lv_imul hx hb dX11_waitOf_135 ?_
          refine lv_iload hx hb dX11_waitOf_136 (lv_at hl 7 rfl) ?_
          refine lv_iadd hx hb dX11_waitOf_138 ?_
          replace hf := bd_so hf
          obtain ⟨x36, h37, hf⟩ := hf
          refine g_iald C hW h37 dX11_waitOf_139 ?_
          refine lv_if_lt (tgt := 199) hx hb dX11_waitOf_140 (by decide) (fun c38 => ?_) (fun c38 => ?_)
          · replace hf := ift_ hf c38
            obtain rfl := so1 hf
            exact J35 _ _ _ hW (lv_sub hl [0, 1, 2, 3, 4, 5, 6, 7] rfl)
          · replace hf := iff_ hf c38
            refine lv_aload_n hx hb dX11_waitOf_143 rfl (lv_at hl 0 rfl) ?_
            refine g_get (ci := 11) (k := 14) (val := .ref (E.ad 73)) C g_us hW rfl rfl rfl (in_sid _ rfl) (by decide) f_RX11_47 rfl dX11_waitOf_144 ?_
            refine lv_bipush (v := 6) hx hb dX11_waitOf_147 (by decide) ?_
            refine lv_iload_n hx hb dX11_waitOf_149 rfl (lv_at hl 3 rfl) ?_
            refine lv_imul hx hb dX11_waitOf_150 ?_
            refine lv_iload hx hb dX11_waitOf_151 (lv_at hl 7 rfl) ?_
            refine lv_iadd hx hb dX11_waitOf_153 ?_
            refine lv_iload hx hb dX11_waitOf_154 (lv_at hl 5 rfl) ?_
            refine lv_aload_n hx hb dX11_waitOf_156 rfl (lv_at hl 0 rfl) ?_
            refine g_get (ci := 11) (k := 14) (val := .ref (E.ad 73)) C g_us hW rfl rfl rfl (in_sid _ rfl) (by decide) f_RX11_47 rfl dX11_waitOf_157 ?_
            refine lv_bipush (v := 6) hx hb dX11_waitOf_160 (by decide) ?_
            refine lv_iload hx hb dX11_waitOf_162 (lv_at hl 4 rfl) ?_
            refine lv_imul hx hb dX11_waitOf_164 ?_
            refine lv_iload hx hb dX11_waitOf_165 (lv_at hl 7 rfl) ?_
            refine lv_iadd hx hb dX11_waitOf_167 ?_
            replace hf := bd_so hf
            obtain ⟨x39, h40, hf⟩ := hf
            refine g_iald C hW h40 dX11_waitOf_168 ?_
            refine lv_iadd hx hb dX11_waitOf_169 ?_
            replace hf := bd_so hf
            obtain ⟨S41, h42, hf⟩ := hf
            refine g_iast C hW h42 dX11_waitOf_170 (fun H locs hW => ?_)
            refine lv_aload_n hx hb dX11_waitOf_171 rfl (lv_at hl 0 rfl) ?_
            refine g_get (ci := 11) (k := 14) (val := .ref (E.ad 73)) C g_us hW rfl rfl rfl (in_sid _ rfl) (by decide) f_RX11_47 rfl dX11_waitOf_172 ?_
            refine lv_bipush (v := 6) hx hb dX11_waitOf_175 (by decide) ?_
            refine lv_iload hx hb dX11_waitOf_177 (lv_at hl 7 rfl) ?_
            refine lv_imul hx hb dX11_waitOf_179 ?_
            refine lv_iload_n hx hb dX11_waitOf_180 rfl (lv_at hl 3 rfl) ?_
            refine lv_iadd hx hb dX11_waitOf_181 ?_
            refine lv_aload_n hx hb dX11_waitOf_182 rfl (lv_at hl 0 rfl) ?_
            refine g_get (ci := 11) (k := 14) (val := .ref (E.ad 73)) C g_us hW rfl rfl rfl (in_sid _ rfl) (by decide) f_RX11_47 rfl dX11_waitOf_183 ?_
            refine lv_bipush (v := 6) hx hb dX11_waitOf_186 (by decide) ?_
            refine lv_iload hx hb dX11_waitOf_188 (lv_at hl 7 rfl) ?_
            refine lv_imul hx hb dX11_waitOf_190 ?_
            refine lv_iload hx hb dX11_waitOf_191 (lv_at hl 4 rfl) ?_
            refine lv_iadd hx hb dX11_waitOf_193 ?_
            replace hf := bd_so hf
            obtain ⟨x43, h44, hf⟩ := hf
            refine g_iald C hW h44 dX11_waitOf_194 ?_
            refine lv_iload hx hb dX11_waitOf_195 (lv_at hl 6 rfl) ?_
            refine lv_iadd hx hb dX11_waitOf_197 ?_
            replace hf := bd_so hf
            obtain ⟨S45, h46, hf⟩ := hf
            refine g_iast C hW h46 dX11_waitOf_198 (fun H locs hW => ?_)
            obtain rfl := so1 hf
            exact J35 _ _ _ hW (lv_sub hl [0, 1, 2, 3, 4, 5, 6, 7] rfl)
  have X11_waitOf_L36_c : ∀ (v1 : Int32) (res : (St) ⊕ (Int32 × St)) (n : Nat) (v2 : Int32) (S : St) (H : Heap) (locs : List Loc) (ls : Array Slot), Ww E S s H locs → lv_has ls 8 [(0, .ref (E.ad 60)), (1, .int v1), (2, .int v2)] → X11_waitOf_L36 v1 n v2 S = some res → (∀ (T : St) (H : Heap) (locs : List Loc) (ls : Array Slot), some (.inl T) = some res → Ww E T s H locs → lv_has ls 8 [(0, .ref (E.ad 60)), (1, .int v1)] → W p l e rm_X11_waitOf s m args below meth c H locs 0 0 Q (F0 m 211 ls [])) → (∀ (r0 : Int32) (T : St) (H : Heap) (locs : List Loc) (pc : Nat) (ls : Array Slot), some (.inr (r0, T)) = some res → Ww E T s H locs → decode cX11_waitOf pc = .ok (.ireturn, 1) → W p l e rm_X11_waitOf s m args below meth c H locs 0 0 Q (F0 m pc ls [.int r0])) → W p l e rm_X11_waitOf s m args below meth c H locs 0 0 Q (F0 m 36 ls []) := by
    intro v1 res n
    induction n with
    | zero =>
      intro v2 S H locs ls hW hl hf
      cases hf
    | succ n ih =>
      intro v2 S H locs ls hW hl hf kE kR
      unfold X11_waitOf_L36 at hf
      refine lv_iload_n hx hb dX11_waitOf_36 rfl (lv_at hl 2 rfl) ?_
      refine lv_if_lt (tgt := 211) hx hb dX11_waitOf_37 (by decide) (fun c12 => ?_) (fun c12 => ?_)
      · replace hf := ift_ hf c12
        exact kE _ _ _ _ hf hW (lv_sub hl [0, 1] rfl)
      · replace hf := iff_ hf c12
        refine lv_aload_n hx hb dX11_waitOf_40 rfl (lv_at hl 0 rfl) ?_
        refine g_get (ci := 11) (k := 13) (val := .ref (E.ad 72)) C g_us hW rfl rfl rfl (in_sid _ rfl) (by decide) f_RX11_44 rfl dX11_waitOf_41 ?_
        refine lv_iconst (v := 2) hx hb dX11_waitOf_44 (by decide) ?_
        refine lv_iload_n hx hb dX11_waitOf_45 rfl (lv_at hl 2 rfl) ?_
        refine lv_imul hx hb dX11_waitOf_46 ?_
        replace hf := bd_so hf
        obtain ⟨x13, h14, hf⟩ := hf
        refine g_iald C hW h14 dX11_waitOf_47 ?_
        refine lv_istore_n (lv' := [(3, .int x13), (0, .ref (E.ad 60)), (1, .int v1), (2, .int v2)]) hx hb dX11_waitOf_48 rfl hl (by decide) rfl (fun ls hl => ?_)
        refine lv_aload_n hx hb dX11_waitOf_49 rfl (lv_at hl 1 rfl) ?_
        refine g_get (ci := 11) (k := 13) (val := .ref (E.ad 72)) C g_us hW rfl rfl rfl (in_sid _ rfl) (by decide) f_RX11_44 rfl dX11_waitOf_50 ?_
        refine lv_iconst (v := 2) hx hb dX11_waitOf_53 (by decide) ?_
        refine lv_iload_n hx hb dX11_waitOf_54 rfl (lv_at hl 3 rfl) ?_
        refine lv_imul hx hb dX11_waitOf_55 ?_
        refine lv_iconst (v := 1) hx hb dX11_waitOf_56 (by decide) ?_
        refine lv_iadd hx hb dX11_waitOf_57 ?_
        replace hf := bd_so hf
        obtain ⟨x15, h16, hf⟩ := hf
        refine g_iald C hW h16 dX11_waitOf_58 ?_
        refine lv_istore (lv' := [(4, .int x15), (3, .int x13), (0, .ref (E.ad 60)), (1, .int v1), (2, .int v2)]) hx hb dX11_waitOf_59 hl (by decide) rfl (fun ls hl => ?_)
        refine lv_aload_n hx hb dX11_waitOf_61 rfl (lv_at hl 2 rfl) ?_
        refine lv_aload_n hx hb dX11_waitOf_62 rfl (lv_at hl 2 rfl) ?_
        refine g_get (ci := 11) (k := 10) (val := .ref (E.ad 69)) C g_us hW rfl rfl rfl (in_sid _ rfl) (by decide) f_RX11_35 rfl dX11_waitOf_63 ?_
        refine lv_iload_n hx hb dX11_waitOf_66 rfl (lv_at hl 1 rfl) ?_
        replace hf := bd_so hf
        obtain ⟨x17, h18, hf⟩ := hf
        refine g_iald C hW h18 dX11_waitOf_67 ?_
        refine lv_aload_n hx hb dX11_waitOf_68 rfl (lv_at hl 2 rfl) ?_
        refine g_get (ci := 11) (k := 10) (val := .ref (E.ad 69)) C g_us hW rfl rfl rfl (in_sid _ rfl) (by decide) f_RX11_35 rfl dX11_waitOf_69 ?_
        refine lv_iload hx hb dX11_waitOf_72 (lv_at hl 0 rfl) ?_
        replace hf := bd_so hf
        obtain ⟨x19, h20, hf⟩ := hf
        refine g_iald C hW h20 dX11_waitOf_74 ?_
        replace hf := bd_so hf
        obtain ⟨x22, h21, hf⟩ := hf
        refine g_callVi (ci := 11) (As := [.int x17, .int x19]) (rest := []) C g_us hW hl.1 (c_X11_wireOf l E S x17 x19 _ h21) rfl rfl rfl (in_sid _ rfl) k_RX11_96 rfl ⟨rfl, rfl⟩ ⟨Nat.le_of_ble_eq_true rfl, Nat.le_of_ble_eq_true rfl⟩ ⟨Nat.zero_le _, Nat.zero_le _⟩ _ rfl (Nat.le_of_ble_eq_true rfl) dX11_waitOf_75 (fun H locs hW => ?_)
        refine lv_istore (lv' := [(5, .int x22), (4, .int x15), (3, .int x13), (0, .ref (E.ad 60)), (1, .int v1), (2, .int v2)]) hx hb dX11_waitOf_78 hl (by decide) rfl (fun ls hl => ?_)
        refine lv_aload_n hx hb dX11_waitOf_80 rfl (lv_at hl 3 rfl) ?_
        refine lv_aload_n hx hb dX11_waitOf_81 rfl (lv_at hl 3 rfl) ?_
        refine g_get (ci := 11) (k := 10) (val := .ref (E.ad 69)) C g_us hW rfl rfl rfl (in_sid _ rfl) (by decide) f_RX11_35 rfl dX11_waitOf_82 ?_
        refine lv_iload hx hb dX11_waitOf_85 (lv_at hl 1 rfl) ?_
        replace hf := bd_so hf
        obtain ⟨x23, h24, hf⟩ := hf
        refine g_iald C hW h24 dX11_waitOf_87 ?_
        refine lv_aload_n hx hb dX11_waitOf_88 rfl (lv_at hl 3 rfl) ?_
        refine g_get (ci := 11) (k := 10) (val := .ref (E.ad 69)) C g_us hW rfl rfl rfl (in_sid _ rfl) (by decide) f_RX11_35 rfl dX11_waitOf_89 ?_
        refine lv_iload_n hx hb dX11_waitOf_92 rfl (lv_at hl 2 rfl) ?_
        replace hf := bd_so hf
        obtain ⟨x25, h26, hf⟩ := hf
        refine g_iald C hW h26 dX11_waitOf_93 ?_
        replace hf := bd_so hf
        obtain ⟨x28, h27, hf⟩ := hf
        refine g_callVi (ci := 11) (As := [.int x23, .int x25]) (rest := []) C g_us hW hl.1 (c_X11_wireOf l E S x23 x25 _ h27) rfl rfl rfl (in_sid _ rfl) k_RX11_96 rfl ⟨rfl, rfl⟩ ⟨Nat.le_of_ble_eq_true rfl, Nat.le_of_ble_eq_true rfl⟩ ⟨Nat.zero_le _, Nat.zero_le _⟩ _ rfl (Nat.le_of_ble_eq_true rfl) dX11_waitOf_94 (fun H locs hW => ?_)
        refine lv_istore (lv' := [(6, .int x28), (5, .int x22), (4, .int x15), (3, .int x13), (0, .ref (E.ad 60)), (1, .int v1), (2, .int v2)]) hx hb dX11_waitOf_97 hl (by decide) rfl (fun ls hl => ?_)
        refine lv_iload hx hb dX11_waitOf_99 (lv_at hl 1 rfl) ?_
        refine lv_if_eq (tgt := 109) hx hb dX11_waitOf_101 (by decide) (fun c29 => ?_) (fun c29 => ?_)
        · replace hf := ift_ hf c29
          refine lv_bipush (v := (-4)) hx hb dX11_waitOf_109 (by decide) ?_
          exact kR _ _ _ _ _ _ hf hW dX11_waitOf_111
        · replace hf := iff_ hf c29
          refine lv_iload hx hb dX11_waitOf_104 (lv_at hl 0 rfl) ?_
          refine lv_if_ne (tgt := 112) hx hb dX11_waitOf_106 (by decide) (fun c30 => ?_) (fun c30 => ?_)
          · replace hf := iff_ hf c30
            refine lv_iconst (v := 0) hx hb dX11_waitOf_112 (by decide) ?_
            refine lv_istore (lv' := [(7, .int 0), (6, .int x28), (5, .int x22), (4, .int x15), (3, .int x13), (0, .ref (E.ad 60)), (1, .int v1), (2, .int v2)]) hx hb dX11_waitOf_113 hl (by decide) rfl (fun ls hl => ?_)
            replace hf := bd_so hf
            obtain ⟨S47, h48, hf⟩ := hf
            have J49 : ∀ (H : Heap) (locs : List Loc) (ls : Array Slot), Ww E S47 s H locs → lv_has ls 8 [(0, .ref (E.ad 60)), (1, .int v1), (2, .int v2)] → W p l e rm_X11_waitOf s m args below meth c H locs 0 0 Q (F0 m 205 ls []) := by
              intro H locs ls hW hl
              refine lv_iinc (v := (v2 + (-1))) (lv' := [(2, .int (v2 + (-1))), (0, .ref (E.ad 60)), (1, .int v1)]) hx hb dX11_waitOf_205 hl (k := 2) rfl rfl (by decide) rfl (fun ls hl => ?_)
              refine lv_goto (tgt := 36) hx hb dX11_waitOf_208 (by decide) ?_
              exact ih _ _ _ _ _ hW (lv_sub hl [1, 2, 0] rfl) hf kE kR
            exact X11_waitOf_L115_c _ _ _ _ _ _ _ FU _ _ _ _ _ hW (lv_sub hl [5, 6, 7, 4, 3, 2, 1, 0] rfl) h48 (fun _ H locs ls e hW hl => by cases e; exact J49 H locs ls hW hl)
          · replace hf := ift_ hf c30
            refine lv_bipush (v := (-4)) hx hb dX11_waitOf_109 (by decide) ?_
            exact kR _ _ _ _ _ _ hf hW dX11_waitOf_111
  have X11_waitOf_L223_c : ∀ (S : St) (v1 : Int32) (v3 : Int32) (res : Int32) (n : Nat) (v2 : Int32) (v4 : Int32) (H : Heap) (locs : List Loc) (ls : Array Slot), Ww E S s H locs → lv_has ls 8 [(0, .ref (E.ad 60)), (1, .int v1), (2, .int v2), (3, .int v3), (4, .int v4)] → X11_waitOf_L223 S v1 v3 n v2 v4 = some res → (∀ (w2 : Int32) (H : Heap) (locs : List Loc) (ls : Array Slot), some w2 = some res → Ww E S s H locs → lv_has ls 8 [(0, .ref (E.ad 60)), (1, .int v1), (2, .int w2), (3, .int v3)] → W p l e rm_X11_waitOf s m args below meth c H locs 0 0 Q (F0 m 268 ls [])) → W p l e rm_X11_waitOf s m args below meth c H locs 0 0 Q (F0 m 223 ls []) := by
    intro S v1 v3 res n
    induction n with
    | zero =>
      intro v2 v4 H locs ls hW hl hf
      cases hf
    | succ n ih =>
      intro v2 v4 H locs ls hW hl hf kE
      unfold X11_waitOf_L223 at hf
      refine lv_iload hx hb dX11_waitOf_223 (lv_at hl 4 rfl) ?_
      refine lv_iload_n hx hb dX11_waitOf_225 rfl (lv_at hl 1 rfl) ?_
      refine lv_icmp_ge (tgt := 268) hx hb dX11_waitOf_226 (by decide) (fun c53 => ?_) (fun c53 => ?_)
      · replace hf := ift_ hf c53
        exact kE _ _ _ _ hf hW (lv_sub hl [0, 1, 2, 3] rfl)
      · replace hf := iff_ hf c53
        refine lv_aload_n hx hb dX11_waitOf_229 rfl (lv_at hl 0 rfl) ?_
        refine g_get (ci := 11) (k := 14) (val := .ref (E.ad 73)) C g_us hW rfl rfl rfl (in_sid _ rfl) (by decide) f_RX11_47 rfl dX11_waitOf_230 ?_
        refine lv_bipush (v := 6) hx hb dX11_waitOf_233 (by decide) ?_
        refine lv_iload_n hx hb dX11_waitOf_235 rfl (lv_at hl 3 rfl) ?_
        refine lv_imul hx hb dX11_waitOf_236 ?_
        refine lv_iload hx hb dX11_waitOf_237 (lv_at hl 4 rfl) ?_
        refine lv_iadd hx hb dX11_waitOf_239 ?_
        replace hf := bd_so hf
        obtain ⟨x54, h55, hf⟩ := hf
        refine g_iald C hW h55 dX11_waitOf_240 ?_
        refine lv_iload_n hx hb dX11_waitOf_241 rfl (lv_at hl 2 rfl) ?_
        replace hf := bd_so hf
        obtain ⟨x57, h58, hf⟩ := hf
        have J59 : ∀ (H : Heap) (locs : List Loc) (ls : Array Slot), Ww E S s H locs → lv_has ls 8 [(0, .ref (E.ad 60)), (1, .int v1), (3, .int v3), (4, .int v4)] → W p l e rm_X11_waitOf s m args below meth c H locs 0 0 Q (F0 m 261 ls [.int x57]) := by
          intro H locs ls hW hl
          refine lv_istore_n (lv' := [(2, .int x57), (0, .ref (E.ad 60)), (1, .int v1), (3, .int v3), (4, .int v4)]) hx hb dX11_waitOf_261 rfl hl (by decide) rfl (fun ls hl => ?_)
          refine lv_iinc (v := (v4 + 1)) (lv' := [(4, .int (v4 + 1)), (2, .int x57), (0, .ref (E.ad 60)), (1, .int v1), (3, .int v3)]) hx hb dX11_waitOf_262 hl (k := 4) rfl rfl (by decide) rfl (fun ls hl => ?_)
          refine lv_goto (tgt := 223) hx hb dX11_waitOf_265 (by decide) ?_
          exact ih _ _ _ _ _ hW (lv_sub hl [2, 3, 1, 4, 0] rfl) hf kE
        clear hf
        have hf := h58
        clear h58
        refine lv_icmp_le (tgt := 260) hx hb dX11_waitOf_242 (by decide) (fun c56 => ?_) (fun c56 => ?_)
        · replace hf := ift_ hf c56
          refine lv_iload_n hx hb dX11_waitOf_260 rfl (lv_at hl 2 rfl) ?_
          obtain rfl := so1 hf
          exact J59 _ _ _ hW (lv_sub hl [0, 1, 3, 4] rfl)
        · replace hf := iff_ hf c56
          refine lv_aload_n hx hb dX11_waitOf_245 rfl (lv_at hl 0 rfl) ?_
          refine g_get (ci := 11) (k := 14) (val := .ref (E.ad 73)) C g_us hW rfl rfl rfl (in_sid _ rfl) (by decide) f_RX11_47 rfl dX11_waitOf_246 ?_
          refine lv_bipush (v := 6) hx hb dX11_waitOf_249 (by decide) ?_
          refine lv_iload_n hx hb dX11_waitOf_251 rfl (lv_at hl 3 rfl) ?_
          refine lv_imul hx hb dX11_waitOf_252 ?_
          refine lv_iload hx hb dX11_waitOf_253 (lv_at hl 4 rfl) ?_
          refine lv_iadd hx hb dX11_waitOf_255 ?_
          replace hf := bd_so hf
          obtain ⟨x60, h61, hf⟩ := hf
          refine g_iald C hW h61 dX11_waitOf_256 ?_
          refine lv_goto (tgt := 261) hx hb dX11_waitOf_257 (by decide) ?_
          obtain rfl := so1 hf
          exact J59 _ _ _ hW (lv_sub hl [0, 1, 3, 4] rfl)
  have X11_waitOf_L215_c : ∀ (S : St) (v1 : Int32) (res : Int32) (n : Nat) (v2 : Int32) (v3 : Int32) (H : Heap) (locs : List Loc) (ls : Array Slot), Ww E S s H locs → lv_has ls 8 [(0, .ref (E.ad 60)), (1, .int v1), (2, .int v2), (3, .int v3)] → X11_waitOf_L215 S v1 n v2 v3 = some res → (∀ (w2 : Int32) (H : Heap) (locs : List Loc) (ls : Array Slot), some w2 = some res → Ww E S s H locs → lv_has ls 8 [(2, .int w2)] → W p l e rm_X11_waitOf s m args below meth c H locs 0 0 Q (F0 m 274 ls [])) → W p l e rm_X11_waitOf s m args below meth c H locs 0 0 Q (F0 m 215 ls []) := by
    intro S v1 res n
    induction n with
    | zero =>
      intro v2 v3 H locs ls hW hl hf
      cases hf
    | succ n ih =>
      intro v2 v3 H locs ls hW hl hf kE
      unfold X11_waitOf_L215 at hf
      refine lv_iload_n hx hb dX11_waitOf_215 rfl (lv_at hl 3 rfl) ?_
      refine lv_iload_n hx hb dX11_waitOf_216 rfl (lv_at hl 1 rfl) ?_
      refine lv_icmp_ge (tgt := 274) hx hb dX11_waitOf_217 (by decide) (fun c52 => ?_) (fun c52 => ?_)
      · replace hf := ift_ hf c52
        exact kE _ _ _ _ hf hW (lv_sub hl [2] rfl)
      · replace hf := iff_ hf c52
        refine lv_iconst (v := 0) hx hb dX11_waitOf_220 (by decide) ?_
        refine lv_istore (lv' := [(4, .int 0), (0, .ref (E.ad 60)), (1, .int v1), (2, .int v2), (3, .int v3)]) hx hb dX11_waitOf_221 hl (by decide) rfl (fun ls hl => ?_)
        replace hf := bd_so hf
        obtain ⟨x62, h63, hf⟩ := hf
        have J64 : ∀ (H : Heap) (locs : List Loc) (ls : Array Slot), Ww E S s H locs → lv_has ls 8 [(0, .ref (E.ad 60)), (1, .int v1), (2, .int x62), (3, .int v3)] → W p l e rm_X11_waitOf s m args below meth c H locs 0 0 Q (F0 m 268 ls []) := by
          intro H locs ls hW hl
          refine lv_iinc (v := (v3 + 1)) (lv' := [(3, .int (v3 + 1)), (0, .ref (E.ad 60)), (1, .int v1), (2, .int x62)]) hx hb dX11_waitOf_268 hl (k := 3) rfl rfl (by decide) rfl (fun ls hl => ?_)
          refine lv_goto (tgt := 215) hx hb dX11_waitOf_271 (by decide) ?_
          exact ih _ _ _ _ _ hW (lv_sub hl [1, 2, 3, 0] rfl) hf kE
        exact X11_waitOf_L223_c _ _ _ _ FU _ _ _ _ _ hW (lv_sub hl [1, 2, 3, 4, 0] rfl) h63 (fun _ H locs ls e hW hl => by cases e; exact J64 H locs ls hW hl)
  unfold X11_waitOf at hf
  refine lv_iconst (v := 0) hx hb dX11_waitOf_0 (by decide) ?_
  refine lv_istore_n (lv' := [(2, .int 0), (0, .ref (E.ad 60)), (1, .int a1)]) hx hb dX11_waitOf_1 rfl hl (by decide) rfl (fun ls hl => ?_)
  replace hf := bd_so hf
  obtain ⟨S10, h11, hf⟩ := hf
  have J71 : ∀ (H : Heap) (locs : List Loc) (ls : Array Slot), Ww E S10 s H locs → lv_has ls 8 [(0, .ref (E.ad 60)), (1, .int a1)] → W p l e rm_X11_waitOf s m args below meth c H locs 0 0 Q (F0 m 32 ls []) := by
    intro H locs ls hW hl
    refine lv_iload_n hx hb dX11_waitOf_32 rfl (lv_at hl 1 rfl) ?_
    refine lv_iconst (v := 2) hx hb dX11_waitOf_33 (by decide) ?_
    refine lv_isub hx hb dX11_waitOf_34 ?_
    refine lv_istore_n (lv' := [(2, .int (a1 - 2)), (0, .ref (E.ad 60)), (1, .int a1)]) hx hb dX11_waitOf_35 rfl hl (by decide) rfl (fun ls hl => ?_)
    replace hf := bd_so hf
    obtain ⟨t, h51, hf⟩ := hf
    rcases t with S50 | ⟨x69, S70⟩
    · dsimp only at hf
      have J68 : ∀ (H : Heap) (locs : List Loc) (ls : Array Slot), Ww E S50 s H locs → lv_has ls 8 [(0, .ref (E.ad 60)), (1, .int a1)] → W p l e rm_X11_waitOf s m args below meth c H locs 0 0 Q (F0 m 211 ls []) := by
        intro H locs ls hW hl
        refine lv_iconst (v := 0) hx hb dX11_waitOf_211 (by decide) ?_
        refine lv_istore_n (lv' := [(2, .int 0), (0, .ref (E.ad 60)), (1, .int a1)]) hx hb dX11_waitOf_212 rfl hl (by decide) rfl (fun ls hl => ?_)
        refine lv_iconst (v := 0) hx hb dX11_waitOf_213 (by decide) ?_
        refine lv_istore_n (lv' := [(3, .int 0), (2, .int 0), (0, .ref (E.ad 60)), (1, .int a1)]) hx hb dX11_waitOf_214 rfl hl (by decide) rfl (fun ls hl => ?_)
        replace hf := bd_so hf
        obtain ⟨x65, h66, hf⟩ := hf
        have J67 : ∀ (H : Heap) (locs : List Loc) (ls : Array Slot), Ww E S50 s H locs → lv_has ls 8 [(2, .int x65)] → W p l e rm_X11_waitOf s m args below meth c H locs 0 0 Q (F0 m 274 ls []) := by
          intro H locs ls hW hl
          refine lv_iload_n hx hb dX11_waitOf_274 rfl (lv_at hl 0 rfl) ?_
          obtain ⟨rfl, rfl⟩ := so2 hf
          exact kR _ _ _ _ hW dX11_waitOf_275
        exact X11_waitOf_L215_c _ _ _ FU _ _ _ _ _ hW (lv_sub hl [2, 3, 1, 0] rfl) h66 (fun _ H locs ls e hW hl => by cases e; exact J67 H locs ls hW hl)
      exact X11_waitOf_L36_c _ _ FU _ _ _ _ _ hW (lv_sub hl [1, 2, 0] rfl) h51 (fun _ H locs ls e hW hl => by cases e; exact J68 H locs ls hW hl) (fun _ _ H locs pc ls e hW dd => by cases e)
    · dsimp only at hf
      refine X11_waitOf_L36_c _ _ FU _ _ _ _ _ hW (lv_sub hl [1, 2, 0] rfl) h51 (fun _ H locs ls e hW hl => by cases e) (fun _ _ H locs pc ls e hW dd => ?_)
      cases e
      obtain ⟨rfl, rfl⟩ := so2 hf
      exact kR _ _ _ _ hW dd
  exact X11_waitOf_L2_c _ _ FU _ _ _ _ _ hW (lv_sub hl [1, 2, 0] rfl) h11 (fun _ H locs ls e hW hl => by cases e; exact J71 H locs ls hW hl)

abbrev rm_X11_net : Room := { frames := 3, cells := 0, slots := 0, locals := 109 }
set_option maxHeartbeats 4000000 in
set_option maxRecDepth 100000 in
theorem c_X11_net (l : Launch) (E : En) (S : St) (r : Int32) (S1 : St) (hf : X11_net S  = some (r, S1)) : Mi l E yX11_net cX11_net 9 (some .int) rm_X11_net [.ref (E.ad 60)] S r S1 := by
  refine g_startI (cc := cX11_net) (n := 9) (by decide) (Nat.le_of_ble_eq_true rfl) ?_
  intro p e s m args below meth c Q H locs C kR hW ls hl
  obtain ⟨⟨hx, hb, hml, hown, hts⟩, hK, hT⟩ := id C
  have hl : lv_has ls 9 [(0, .ref (E.ad 60))] := hl
  have X11_net_L6_c : ∀ (S : St) (v1 : Int32) (res : Int32) (n : Nat) (v2 : Int32) (v3 : Int32) (H : Heap) (locs : List Loc) (ls : Array Slot), Ww E S s H locs → lv_has ls 9 [(0, .ref (E.ad 60)), (1, .int v1), (2, .int v2), (3, .int v3)] → X11_net_L6 S v1 n v2 v3 = some res → (∀ (w2 : Int32) (H : Heap) (locs : List Loc) (ls : Array Slot), some w2 = some res → Ww E S s H locs → lv_has ls 9 [(0, .ref (E.ad 60)), (1, .int v1), (2, .int w2)] → W p l e rm_X11_net s m args below meth c H locs 0 0 Q (F0 m 36 ls [])) → W p l e rm_X11_net s m args below meth c H locs 0 0 Q (F0 m 6 ls []) := by
    intro S v1 res n
    induction n with
    | zero =>
      intro v2 v3 H locs ls hW hl hf
      cases hf
    | succ n ih =>
      intro v2 v3 H locs ls hW hl hf kE
      unfold X11_net_L6 at hf
      refine lv_iload_n hx hb dX11_net_6 rfl (lv_at hl 3 rfl) ?_
      refine lv_aload_n hx hb dX11_net_7 rfl (lv_at hl 0 rfl) ?_
      replace hf := bd_so hf
      obtain ⟨x2, h1, hf⟩ := hf
      refine g_callVi (ci := 11) (As := []) (rest := [.int v3]) C g_us hW hl.1 (c_X11_rooms l E S  _ h1) rfl rfl rfl (in_sid _ rfl) k_RX11_82 rfl ⟨rfl, rfl⟩ ⟨Nat.le_of_ble_eq_true rfl, Nat.le_of_ble_eq_true rfl⟩ ⟨Nat.zero_le _, Nat.zero_le _⟩ _ rfl (Nat.le_of_ble_eq_true rfl) dX11_net_8 (fun H locs hW => ?_)
      refine lv_icmp_ge (tgt := 36) hx hb dX11_net_11 (by decide) (fun c3 => ?_) (fun c3 => ?_)
      · replace hf := ift_ hf c3
        exact kE _ _ _ _ hf hW (lv_sub hl [0, 1, 2] rfl)
      · replace hf := iff_ hf c3
        refine lv_iload_n hx hb dX11_net_14 rfl (lv_at hl 2 rfl) ?_
        refine lv_aload_n hx hb dX11_net_15 rfl (lv_at hl 0 rfl) ?_
        refine lv_iload_n hx hb dX11_net_16 rfl (lv_at hl 3 rfl) ?_
        replace hf := bd_so hf
        obtain ⟨x5, h4, hf⟩ := hf
        refine g_callVi (ci := 11) (As := [.int v3]) (rest := [.int v2]) C g_us hW hl.1 (c_X11_isCut l E S v3 _ h4) rfl rfl rfl (in_sid _ rfl) k_RX11_137 rfl ⟨rfl, rfl⟩ ⟨Nat.le_of_ble_eq_true rfl, Nat.le_of_ble_eq_true rfl⟩ ⟨Nat.zero_le _, Nat.zero_le _⟩ _ rfl (Nat.le_of_ble_eq_true rfl) dX11_net_17 (fun H locs hW => ?_)
        replace hf := bd_so hf
        obtain ⟨x7, h8, hf⟩ := hf
        have J9 : ∀ (H : Heap) (locs : List Loc) (ls : Array Slot), Ww E S s H locs → lv_has ls 9 [(0, .ref (E.ad 60)), (1, .int v1), (3, .int v3)] → W p l e rm_X11_net s m args below meth c H locs 0 0 Q (F0 m 28 ls [.int x7, .int v2]) := by
          intro H locs ls hW hl
          refine lv_iadd hx hb dX11_net_28 ?_
          refine lv_istore_n (lv' := [(2, .int (v2 + x7)), (0, .ref (E.ad 60)), (1, .int v1), (3, .int v3)]) hx hb dX11_net_29 rfl hl (by decide) rfl (fun ls hl => ?_)
          refine lv_iinc (v := (v3 + 1)) (lv' := [(3, .int (v3 + 1)), (2, .int (v2 + x7)), (0, .ref (E.ad 60)), (1, .int v1)]) hx hb dX11_net_30 hl (k := 3) rfl rfl (by decide) rfl (fun ls hl => ?_)
          refine lv_goto (tgt := 6) hx hb dX11_net_33 (by decide) ?_
          exact ih _ _ _ _ _ hW (lv_sub hl [2, 3, 1, 0] rfl) hf kE
        clear hf
        have hf := h8
        clear h8
        refine lv_if_eq (tgt := 27) hx hb dX11_net_20 (by decide) (fun c6 => ?_) (fun c6 => ?_)
        · replace hf := ift_ hf c6
          refine lv_iconst (v := 0) hx hb dX11_net_27 (by decide) ?_
          obtain rfl := so1 hf
          exact J9 _ _ _ hW (lv_sub hl [0, 1, 3] rfl)
        · replace hf := iff_ hf c6
          refine lv_iconst (v := 1) hx hb dX11_net_23 (by decide) ?_
          refine lv_goto (tgt := 28) hx hb dX11_net_24 (by decide) ?_
          obtain rfl := so1 hf
          exact J9 _ _ _ hW (lv_sub hl [0, 1, 3] rfl)
  have X11_net_L60_c : ∀ (res : Int32 × St) (n : Nat) (v1 : Int32) (v3 : Int32) (S : St) (H : Heap) (locs : List Loc) (ls : Array Slot), Ww E S s H locs → lv_has ls 9 [(0, .ref (E.ad 60)), (1, .int v1), (3, .int v3)] → X11_net_L60  n v1 v3 S = some res → (∀ (w1 : Int32) (T : St) (H : Heap) (locs : List Loc) (ls : Array Slot), some (w1, T) = some res → Ww E T s H locs → lv_has ls 9 [(0, .ref (E.ad 60)), (1, .int w1)] → W p l e rm_X11_net s m args below meth c H locs 0 0 Q (F0 m 92 ls [])) → W p l e rm_X11_net s m args below meth c H locs 0 0 Q (F0 m 60 ls []) := by
    intro  res n
    induction n with
    | zero =>
      intro v1 v3 S H locs ls hW hl hf
      cases hf
    | succ n ih =>
      intro v1 v3 S H locs ls hW hl hf kE
      unfold X11_net_L60 at hf
      refine lv_iload_n hx hb dX11_net_60 rfl (lv_at hl 2 rfl) ?_
      refine lv_aload_n hx hb dX11_net_61 rfl (lv_at hl 0 rfl) ?_
      replace hf := bd_so hf
      obtain ⟨x18, h17, hf⟩ := hf
      refine g_callVi (ci := 11) (As := []) (rest := [.int v3]) C g_us hW hl.1 (c_X11_rooms l E S  _ h17) rfl rfl rfl (in_sid _ rfl) k_RX11_82 rfl ⟨rfl, rfl⟩ ⟨Nat.le_of_ble_eq_true rfl, Nat.le_of_ble_eq_true rfl⟩ ⟨Nat.zero_le _, Nat.zero_le _⟩ _ rfl (Nat.le_of_ble_eq_true rfl) dX11_net_62 (fun H locs hW => ?_)
      refine lv_icmp_ge (tgt := 92) hx hb dX11_net_65 (by decide) (fun c19 => ?_) (fun c19 => ?_)
      · replace hf := ift_ hf c19
        exact kE _ _ _ _ _ hf hW (lv_sub hl [0, 1] rfl)
      · replace hf := iff_ hf c19
        refine lv_aload_n hx hb dX11_net_68 rfl (lv_at hl 0 rfl) ?_
        refine lv_iload_n hx hb dX11_net_69 rfl (lv_at hl 2 rfl) ?_
        replace hf := bd_so hf
        obtain ⟨x21, h20, hf⟩ := hf
        refine g_callVi (ci := 11) (As := [.int v3]) (rest := []) C g_us hW hl.1 (c_X11_isCut l E S v3 _ h20) rfl rfl rfl (in_sid _ rfl) k_RX11_137 rfl ⟨rfl, rfl⟩ ⟨Nat.le_of_ble_eq_true rfl, Nat.le_of_ble_eq_true rfl⟩ ⟨Nat.zero_le _, Nat.zero_le _⟩ _ rfl (Nat.le_of_ble_eq_true rfl) dX11_net_70 (fun H locs hW => ?_)
        replace hf := bd_so hf
        obtain ⟨⟨x23, S24⟩, h25, hf⟩ := hf
        dsimp only at hf
        have J26 : ∀ (H : Heap) (locs : List Loc) (ls : Array Slot), Ww E S24 s H locs → lv_has ls 9 [(0, .ref (E.ad 60)), (1, .int x23), (3, .int v3)] → W p l e rm_X11_net s m args below meth c H locs 0 0 Q (F0 m 86 ls []) := by
          intro H locs ls hW hl
          refine lv_iinc (v := (v3 + 1)) (lv' := [(3, .int (v3 + 1)), (0, .ref (E.ad 60)), (1, .int x23)]) hx hb dX11_net_86 hl (k := 2) rfl rfl (by decide) rfl (fun ls hl => ?_)
          refine lv_goto (tgt := 60) hx hb dX11_net_89 (by decide) ?_
          exact ih _ _ _ _ _ _ hW (lv_sub hl [1, 2, 0] rfl) hf kE
        clear hf
        have hf := h25
        clear h25
        refine lv_if_ne (tgt := 86) hx hb dX11_net_73 (by decide) (fun c22 => ?_) (fun c22 => ?_)
        · replace hf := iff_ hf c22
          obtain ⟨rfl, rfl⟩ := so2 hf
          exact J26 _ _ _ hW (lv_sub hl [0, 1, 2] rfl)
        · replace hf := ift_ hf c22
          refine lv_aload_n hx hb dX11_net_76 rfl (lv_at hl 0 rfl) ?_
          refine g_get (ci := 11) (k := 10) (val := .ref (E.ad 69)) C g_us hW rfl rfl rfl (in_sid _ rfl) (by decide) f_RX11_35 rfl dX11_net_77 ?_
          refine lv_iload_n hx hb dX11_net_80 rfl (lv_at hl 1 rfl) ?_
          refine lv_iload_n hx hb dX11_net_81 rfl (lv_at hl 2 rfl) ?_
          replace hf := bd_so hf
          obtain ⟨S27, h28, hf⟩ := hf
          refine g_iast C hW h28 dX11_net_82 (fun H locs hW => ?_)
          refine lv_iinc (v := (v1 + 1)) (lv' := [(1, .int (v1 + 1)), (0, .ref (E.ad 60)), (3, .int v3)]) hx hb dX11_net_83 hl (k := 1) rfl rfl (by decide) rfl (fun ls hl => ?_)
          obtain ⟨rfl, rfl⟩ := so2 hf
          exact J26 _ _ _ hW (lv_sub hl [1, 0, 2] rfl)
  have X11_net_L97_c : ∀ (S : St) (v1 : Int32) (res : Int32) (n : Nat) (v3 : Int32) (v4 : Int32) (H : Heap) (locs : List Loc) (ls : Array Slot), Ww E S s H locs → lv_has ls 9 [(0, .ref (E.ad 60)), (1, .int v1), (3, .int v3), (4, .int v4)] → X11_net_L97 S v1 n v3 v4 = some res → (∀ (w3 : Int32) (H : Heap) (locs : List Loc) (ls : Array Slot), some w3 = some res → Ww E S s H locs → lv_has ls 9 [(0, .ref (E.ad 60)), (1, .int v1), (3, .int w3)] → W p l e rm_X11_net s m args below meth c H locs 0 0 Q (F0 m 115 ls [])) → W p l e rm_X11_net s m args below meth c H locs 0 0 Q (F0 m 97 ls []) := by
    intro S v1 res n
    induction n with
    | zero =>
      intro v3 v4 H locs ls hW hl hf
      cases hf
    | succ n ih =>
      intro v3 v4 H locs ls hW hl hf kE
      unfold X11_net_L97 at hf
      refine lv_iload hx hb dX11_net_97 (lv_at hl 3 rfl) ?_
      refine lv_iload_n hx hb dX11_net_99 rfl (lv_at hl 1 rfl) ?_
      refine lv_iconst (v := 2) hx hb dX11_net_100 (by decide) ?_
      refine lv_isub hx hb dX11_net_101 ?_
      refine lv_icmp_ge (tgt := 115) hx hb dX11_net_102 (by decide) (fun c32 => ?_) (fun c32 => ?_)
      · replace hf := ift_ hf c32
        exact kE _ _ _ _ hf hW (lv_sub hl [0, 1, 2] rfl)
      · replace hf := iff_ hf c32
        refine lv_iload_n hx hb dX11_net_105 rfl (lv_at hl 2 rfl) ?_
        refine lv_iload_n hx hb dX11_net_106 rfl (lv_at hl 1 rfl) ?_
        refine lv_imul hx hb dX11_net_107 ?_
        refine lv_istore_n (lv' := [(3, .int (v3 * v1)), (0, .ref (E.ad 60)), (1, .int v1), (4, .int v4)]) hx hb dX11_net_108 rfl hl (by decide) rfl (fun ls hl => ?_)
        refine lv_iinc (v := (v4 + 1)) (lv' := [(4, .int (v4 + 1)), (3, .int (v3 * v1)), (0, .ref (E.ad 60)), (1, .int v1)]) hx hb dX11_net_109 hl (k := 3) rfl rfl (by decide) rfl (fun ls hl => ?_)
        refine lv_goto (tgt := 97) hx hb dX11_net_112 (by decide) ?_
        exact ih _ _ _ _ _ hW (lv_sub hl [2, 3, 1, 0] rfl) hf kE
  have X11_net_L135_c : ∀ (v1 : Int32) (v3 : Int32) (v4 : Int32) (v5 : Int32) (res : St) (n : Nat) (v6 : Int32) (v7 : Int32) (S : St) (H : Heap) (locs : List Loc) (ls : Array Slot), Ww E S s H locs → lv_has ls 9 [(0, .ref (E.ad 60)), (1, .int v1), (3, .int v3), (4, .int v4), (5, .int v5), (6, .int v6), (7, .int v7)] → X11_net_L135 v1 v3 v4 v5 n v6 v7 S = some res → (∀ (T : St) (H : Heap) (locs : List Loc) (ls : Array Slot), some T = some res → Ww E T s H locs → lv_has ls 9 [(0, .ref (E.ad 60)), (1, .int v1), (3, .int v3), (4, .int v4), (5, .int v5)] → W p l e rm_X11_net s m args below meth c H locs 0 0 Q (F0 m 166 ls [])) → W p l e rm_X11_net s m args below meth c H locs 0 0 Q (F0 m 135 ls []) := by
    intro v1 v3 v4 v5 res n
    induction n with
    | zero =>
      intro v6 v7 S H locs ls hW hl hf
      cases hf
    | succ n ih =>
      intro v6 v7 S H locs ls hW hl hf kE
      unfold X11_net_L135 at hf
      refine lv_iload hx hb dX11_net_135 (lv_at hl 6 rfl) ?_
      refine lv_iload_n hx hb dX11_net_137 rfl (lv_at hl 1 rfl) ?_
      refine lv_iconst (v := 2) hx hb dX11_net_138 (by decide) ?_
      refine lv_isub hx hb dX11_net_139 ?_
      refine lv_icmp_ge (tgt := 166) hx hb dX11_net_140 (by decide) (fun c36 => ?_) (fun c36 => ?_)
      · replace hf := ift_ hf c36
        exact kE _ _ _ _ hf hW (lv_sub hl [0, 1, 2, 3, 4] rfl)
      · replace hf := iff_ hf c36
        refine lv_aload_n hx hb dX11_net_143 rfl (lv_at hl 0 rfl) ?_
        refine g_get (ci := 11) (k := 11) (val := .ref (E.ad 70)) C g_us hW rfl rfl rfl (in_sid _ rfl) (by decide) f_RX11_38 rfl dX11_net_144 ?_
        refine lv_iload hx hb dX11_net_147 (lv_at hl 6 rfl) ?_
        refine lv_iload hx hb dX11_net_149 (lv_at hl 5 rfl) ?_
        refine lv_iload_n hx hb dX11_net_151 rfl (lv_at hl 1 rfl) ?_
        replace hf := bd_so hf
        obtain ⟨x37, h38, hf⟩ := hf
        refine g_irem C h38 dX11_net_152 ?_
        replace hf := bd_so hf
        obtain ⟨S39, h40, hf⟩ := hf
        refine g_iast C hW h40 dX11_net_153 (fun H locs hW => ?_)
        refine lv_iload hx hb dX11_net_154 (lv_at hl 5 rfl) ?_
        refine lv_iload_n hx hb dX11_net_156 rfl (lv_at hl 1 rfl) ?_
        replace hf := bd_so hf
        obtain ⟨x41, h42, hf⟩ := hf
        refine g_idiv C h42 dX11_net_157 ?_
        refine lv_istore (lv' := [(6, .int x41), (0, .ref (E.ad 60)), (1, .int v1), (3, .int v3), (4, .int v4), (5, .int v5), (7, .int v7)]) hx hb dX11_net_158 hl (by decide) rfl (fun ls hl => ?_)
        refine lv_iinc (v := (v7 + 1)) (lv' := [(7, .int (v7 + 1)), (6, .int x41), (0, .ref (E.ad 60)), (1, .int v1), (3, .int v3), (4, .int v4), (5, .int v5)]) hx hb dX11_net_160 hl (k := 6) rfl rfl (by decide) rfl (fun ls hl => ?_)
        refine lv_goto (tgt := 135) hx hb dX11_net_163 (by decide) ?_
        exact ih _ _ _ _ _ _ hW (lv_sub hl [2, 3, 4, 5, 6, 1, 0] rfl) hf kE
  have X11_net_L122_c : ∀ (v1 : Int32) (v3 : Int32) (res : Int32 × St) (n : Nat) (v4 : Int32) (v5 : Int32) (S : St) (H : Heap) (locs : List Loc) (ls : Array Slot), Ww E S s H locs → lv_has ls 9 [(0, .ref (E.ad 60)), (1, .int v1), (3, .int v3), (4, .int v4), (5, .int v5)] → X11_net_L122 v1 v3 n v4 v5 S = some res → (∀ (w4 : Int32) (T : St) (H : Heap) (locs : List Loc) (ls : Array Slot), some (w4, T) = some res → Ww E T s H locs → lv_has ls 9 [(4, .int w4)] → W p l e rm_X11_net s m args below meth c H locs 0 0 Q (F0 m 222 ls [])) → W p l e rm_X11_net s m args below meth c H locs 0 0 Q (F0 m 122 ls []) := by
    intro v1 v3 res n
    induction n with
    | zero =>
      intro v4 v5 S H locs ls hW hl hf
      cases hf
    | succ n ih =>
      intro v4 v5 S H locs ls hW hl hf kE
      unfold X11_net_L122 at hf
      refine lv_iload hx hb dX11_net_122 (lv_at hl 4 rfl) ?_
      refine lv_iload_n hx hb dX11_net_124 rfl (lv_at hl 2 rfl) ?_
      refine lv_icmp_ge (tgt := 222) hx hb dX11_net_125 (by decide) (fun c35 => ?_) (fun c35 => ?_)
      · replace hf := ift_ hf c35
        exact kE _ _ _ _ _ hf hW (lv_sub hl [3] rfl)
      · replace hf := iff_ hf c35
        refine lv_iload hx hb dX11_net_128 (lv_at hl 4 rfl) ?_
        refine lv_istore (lv' := [(6, .int v5), (0, .ref (E.ad 60)), (1, .int v1), (3, .int v3), (4, .int v4), (5, .int v5)]) hx hb dX11_net_130 hl (by decide) rfl (fun ls hl => ?_)
        refine lv_iconst (v := 0) hx hb dX11_net_132 (by decide) ?_
        refine lv_istore (lv' := [(7, .int 0), (6, .int v5), (0, .ref (E.ad 60)), (1, .int v1), (3, .int v3), (4, .int v4), (5, .int v5)]) hx hb dX11_net_133 hl (by decide) rfl (fun ls hl => ?_)
        replace hf := bd_so hf
        obtain ⟨S43, h44, hf⟩ := hf
        have J62 : ∀ (H : Heap) (locs : List Loc) (ls : Array Slot), Ww E S43 s H locs → lv_has ls 9 [(0, .ref (E.ad 60)), (1, .int v1), (3, .int v3), (4, .int v4), (5, .int v5)] → W p l e rm_X11_net s m args below meth c H locs 0 0 Q (F0 m 166 ls []) := by
          intro H locs ls hW hl
          refine lv_aload_n hx hb dX11_net_166 rfl (lv_at hl 0 rfl) ?_
          refine lv_iload_n hx hb dX11_net_167 rfl (lv_at hl 1 rfl) ?_
          replace hf := bd_so hf
          obtain ⟨⟨x46, S47⟩, h45, hf⟩ := hf
          dsimp only at hf
          refine g_callVi (ci := 11) (As := [.int v1]) (rest := []) C g_us hW hl.1 (c_X11_parts l E S43 v1 _ _ h45) rfl rfl rfl (in_sid _ rfl) k_RX11_198 rfl ⟨rfl, rfl⟩ ⟨Nat.le_of_ble_eq_true rfl, Nat.le_of_ble_eq_true rfl⟩ ⟨Nat.zero_le _, Nat.zero_le _⟩ _ rfl (Nat.le_of_ble_eq_true rfl) dX11_net_168 (fun H locs hW => ?_)
          refine lv_istore (lv' := [(7, .int x46), (0, .ref (E.ad 60)), (1, .int v1), (3, .int v3), (4, .int v4), (5, .int v5)]) hx hb dX11_net_171 hl (by decide) rfl (fun ls hl => ?_)
          refine lv_iload hx hb dX11_net_173 (lv_at hl 0 rfl) ?_
          replace hf := bd_so hf
          obtain ⟨⟨x49, S50⟩, h51, hf⟩ := hf
          dsimp only at hf
          have J52 : ∀ (H : Heap) (locs : List Loc) (ls : Array Slot), Ww E S50 s H locs → lv_has ls 9 [(0, .ref (E.ad 60)), (1, .int v1), (3, .int v3), (4, .int v4), (5, .int v5)] → W p l e rm_X11_net s m args below meth c H locs 0 0 Q (F0 m 188 ls [.int x49]) := by
            intro H locs ls hW hl
            refine lv_istore (lv' := [(8, .int x49), (0, .ref (E.ad 60)), (1, .int v1), (3, .int v3), (4, .int v4), (5, .int v5)]) hx hb dX11_net_188 hl (by decide) rfl (fun ls hl => ?_)
            refine lv_iload hx hb dX11_net_190 (lv_at hl 0 rfl) ?_
            replace hf := bd_so hf
            obtain ⟨x54, h55, hf⟩ := hf
            have J56 : ∀ (H : Heap) (locs : List Loc) (ls : Array Slot), Ww E S50 s H locs → lv_has ls 9 [(0, .ref (E.ad 60)), (1, .int v1), (3, .int v3), (5, .int v5)] → W p l e rm_X11_net s m args below meth c H locs 0 0 Q (F0 m 214 ls [.int x54]) := by
              intro H locs ls hW hl
              refine lv_istore (lv' := [(4, .int x54), (0, .ref (E.ad 60)), (1, .int v1), (3, .int v3), (5, .int v5)]) hx hb dX11_net_214 hl (by decide) rfl (fun ls hl => ?_)
              refine lv_iinc (v := (v5 + 1)) (lv' := [(5, .int (v5 + 1)), (4, .int x54), (0, .ref (E.ad 60)), (1, .int v1), (3, .int v3)]) hx hb dX11_net_216 hl (k := 4) rfl rfl (by decide) rfl (fun ls hl => ?_)
              refine lv_goto (tgt := 122) hx hb dX11_net_219 (by decide) ?_
              exact ih _ _ _ _ _ _ hW (lv_sub hl [2, 3, 4, 1, 0] rfl) hf kE
            clear hf
            have hf := h55
            clear h55
            refine lv_if_lt (tgt := 212) hx hb dX11_net_192 (by decide) (fun c53 => ?_) (fun c53 => ?_)
            · replace hf := ift_ hf c53
              refine lv_iload hx hb dX11_net_212 (lv_at hl 4 rfl) ?_
              obtain rfl := so1 hf
              exact J56 _ _ _ hW (lv_sub hl [1, 2, 3, 5] rfl)
            · replace hf := iff_ hf c53
              refine lv_iload hx hb dX11_net_195 (lv_at hl 4 rfl) ?_
              refine lv_if_lt (tgt := 207) hx hb dX11_net_197 (by decide) (fun c57 => ?_) (fun c57 => ?_)
              · replace hf := ift_ hf c57
                refine lv_iload hx hb dX11_net_207 (lv_at hl 0 rfl) ?_
                refine lv_goto (tgt := 214) hx hb dX11_net_209 (by decide) ?_
                obtain rfl := so1 hf
                exact J56 _ _ _ hW (lv_sub hl [1, 2, 3, 5] rfl)
              · replace hf := iff_ hf c57
                refine lv_iload hx hb dX11_net_200 (lv_at hl 0 rfl) ?_
                refine lv_iload hx hb dX11_net_202 (lv_at hl 4 rfl) ?_
                refine lv_icmp_ge (tgt := 212) hx hb dX11_net_204 (by decide) (fun c58 => ?_) (fun c58 => ?_)
                · replace hf := ift_ hf c58
                  refine lv_iload hx hb dX11_net_212 (lv_at hl 4 rfl) ?_
                  obtain rfl := so1 hf
                  exact J56 _ _ _ hW (lv_sub hl [1, 2, 3, 5] rfl)
                · replace hf := iff_ hf c58
                  refine lv_iload hx hb dX11_net_207 (lv_at hl 0 rfl) ?_
                  refine lv_goto (tgt := 214) hx hb dX11_net_209 (by decide) ?_
                  obtain rfl := so1 hf
                  exact J56 _ _ _ hW (lv_sub hl [1, 2, 3, 5] rfl)
          clear hf
          have hf := h51
          clear h51
          refine lv_if_eq (tgt := 186) hx hb dX11_net_175 (by decide) (fun c48 => ?_) (fun c48 => ?_)
          · replace hf := ift_ hf c48
            refine lv_bipush (v := (-4)) hx hb dX11_net_186 (by decide) ?_
            obtain ⟨rfl, rfl⟩ := so2 hf
            exact J52 _ _ _ hW (lv_sub hl [1, 2, 3, 4, 5] rfl)
          · replace hf := iff_ hf c48
            refine lv_aload_n hx hb dX11_net_178 rfl (lv_at hl 1 rfl) ?_
            refine lv_iload_n hx hb dX11_net_179 rfl (lv_at hl 2 rfl) ?_
            replace hf := bd_so hf
            obtain ⟨⟨x60, S61⟩, h59, hf⟩ := hf
            dsimp only at hf
            refine g_callVi (ci := 11) (As := [.int v1]) (rest := []) C g_us hW hl.1 (c_X11_waitOf l E S47 v1 _ _ h59) rfl rfl rfl (in_sid _ rfl) k_RX11_201 rfl ⟨rfl, rfl⟩ ⟨Nat.le_of_ble_eq_true rfl, Nat.le_of_ble_eq_true rfl⟩ ⟨Nat.zero_le _, Nat.zero_le _⟩ _ rfl (Nat.le_of_ble_eq_true rfl) dX11_net_180 (fun H locs hW => ?_)
            refine lv_goto (tgt := 188) hx hb dX11_net_183 (by decide) ?_
            obtain ⟨rfl, rfl⟩ := so2 hf
            exact J52 _ _ _ hW (lv_sub hl [1, 2, 3, 4, 5] rfl)
        exact X11_net_L135_c _ _ _ _ _ FU _ _ _ _ _ _ hW (lv_sub hl [2, 3, 4, 5, 6, 1, 0] rfl) h44 (fun _ H locs ls e hW hl => by cases e; exact J62 H locs ls hW hl)
  unfold X11_net at hf
  refine lv_iconst (v := 0) hx hb dX11_net_0 (by decide) ?_
  refine lv_istore_n (lv' := [(1, .int 0), (0, .ref (E.ad 60))]) hx hb dX11_net_1 rfl hl (by decide) rfl (fun ls hl => ?_)
  refine lv_iconst (v := 0) hx hb dX11_net_2 (by decide) ?_
  refine lv_istore_n (lv' := [(2, .int 0), (1, .int 0), (0, .ref (E.ad 60))]) hx hb dX11_net_3 rfl hl (by decide) rfl (fun ls hl => ?_)
  refine lv_iconst (v := 0) hx hb dX11_net_4 (by decide) ?_
  refine lv_istore_n (lv' := [(3, .int 0), (2, .int 0), (1, .int 0), (0, .ref (E.ad 60))]) hx hb dX11_net_5 rfl hl (by decide) rfl (fun ls hl => ?_)
  replace hf := bd_so hf
  obtain ⟨x10, h11, hf⟩ := hf
  have J69 : ∀ (H : Heap) (locs : List Loc) (ls : Array Slot), Ww E S s H locs → lv_has ls 9 [(0, .ref (E.ad 60)), (1, .int 0), (2, .int x10)] → W p l e rm_X11_net s m args below meth c H locs 0 0 Q (F0 m 36 ls []) := by
    intro H locs ls hW hl
    refine lv_aload_n hx hb dX11_net_36 rfl (lv_at hl 0 rfl) ?_
    replace hf := bd_so hf
    obtain ⟨x13, h12, hf⟩ := hf
    refine g_callVi (ci := 11) (As := []) (rest := []) C g_us hW hl.1 (c_X11_rooms l E S  _ h12) rfl rfl rfl (in_sid _ rfl) k_RX11_82 rfl ⟨rfl, rfl⟩ ⟨Nat.le_of_ble_eq_true rfl, Nat.le_of_ble_eq_true rfl⟩ ⟨Nat.zero_le _, Nat.zero_le _⟩ _ rfl (Nat.le_of_ble_eq_true rfl) dX11_net_37 (fun H locs hW => ?_)
    refine lv_iload_n hx hb dX11_net_40 rfl (lv_at hl 2 rfl) ?_
    refine lv_isub hx hb dX11_net_41 ?_
    refine lv_i2l (v := ((x13 - x10) : Int32).toInt64) hx hb dX11_net_42 rfl ?_
    refine lv_ldc2 hx hb hown (hts _ (g_us _ q_RX11_194)) dX11_net_43 ?_
    refine lv_ldc2 hx hb hown (hts _ (g_us _ q_RX11_196)) dX11_net_46 ?_
    replace hf := bd_so hf
    obtain ⟨x15, h14, hf⟩ := hf
    refine g_callSi (As := [.long (((x13 - x10) : Int32).toInt64), .long 2, .long 6]) (rest := []) C g_us hW hl.1 (c_X11_in l E S (((x13 - x10) : Int32).toInt64) 2 6 _ h14) k_RX11_72 rfl ⟨rfl, rfl⟩ ⟨Nat.le_of_ble_eq_true rfl, Nat.le_of_ble_eq_true rfl⟩ ⟨Nat.zero_le _, Nat.zero_le _⟩ _ rfl (Nat.le_of_ble_eq_true rfl) dX11_net_49 (fun H locs hW => ?_)
    refine lv_if_ne (tgt := 58) hx hb dX11_net_52 (by decide) (fun c16 => ?_) (fun c16 => ?_)
    · replace hf := iff_ hf c16
      refine lv_iconst (v := 0) hx hb dX11_net_58 (by decide) ?_
      refine lv_istore_n (lv' := [(3, .int 0), (0, .ref (E.ad 60)), (1, .int 0), (2, .int x10)]) hx hb dX11_net_59 rfl hl (by decide) rfl (fun ls hl => ?_)
      replace hf := bd_so hf
      obtain ⟨⟨x29, S30⟩, h31, hf⟩ := hf
      dsimp only at hf
      have J68 : ∀ (H : Heap) (locs : List Loc) (ls : Array Slot), Ww E S30 s H locs → lv_has ls 9 [(0, .ref (E.ad 60)), (1, .int x29)] → W p l e rm_X11_net s m args below meth c H locs 0 0 Q (F0 m 92 ls []) := by
        intro H locs ls hW hl
        refine lv_iconst (v := 1) hx hb dX11_net_92 (by decide) ?_
        refine lv_istore_n (lv' := [(3, .int 1), (0, .ref (E.ad 60)), (1, .int x29)]) hx hb dX11_net_93 rfl hl (by decide) rfl (fun ls hl => ?_)
        refine lv_iconst (v := 0) hx hb dX11_net_94 (by decide) ?_
        refine lv_istore (lv' := [(4, .int 0), (3, .int 1), (0, .ref (E.ad 60)), (1, .int x29)]) hx hb dX11_net_95 hl (by decide) rfl (fun ls hl => ?_)
        replace hf := bd_so hf
        obtain ⟨x33, h34, hf⟩ := hf
        have J67 : ∀ (H : Heap) (locs : List Loc) (ls : Array Slot), Ww E S30 s H locs → lv_has ls 9 [(0, .ref (E.ad 60)), (1, .int x29), (3, .int x33)] → W p l e rm_X11_net s m args below meth c H locs 0 0 Q (F0 m 115 ls []) := by
          intro H locs ls hW hl
          refine lv_bipush (v := (-4)) hx hb dX11_net_115 (by decide) ?_
          refine lv_istore (lv' := [(4, .int (-4)), (0, .ref (E.ad 60)), (1, .int x29), (3, .int x33)]) hx hb dX11_net_117 hl (by decide) rfl (fun ls hl => ?_)
          refine lv_iconst (v := 0) hx hb dX11_net_119 (by decide) ?_
          refine lv_istore (lv' := [(5, .int 0), (4, .int (-4)), (0, .ref (E.ad 60)), (1, .int x29), (3, .int x33)]) hx hb dX11_net_120 hl (by decide) rfl (fun ls hl => ?_)
          replace hf := bd_so hf
          obtain ⟨⟨x63, S64⟩, h65, hf⟩ := hf
          dsimp only at hf
          have J66 : ∀ (H : Heap) (locs : List Loc) (ls : Array Slot), Ww E S64 s H locs → lv_has ls 9 [(4, .int x63)] → W p l e rm_X11_net s m args below meth c H locs 0 0 Q (F0 m 222 ls []) := by
            intro H locs ls hW hl
            refine lv_iload hx hb dX11_net_222 (lv_at hl 0 rfl) ?_
            obtain ⟨rfl, rfl⟩ := so2 hf
            exact kR _ _ _ _ hW dX11_net_224
          exact X11_net_L122_c _ _ _ FU _ _ _ _ _ _ hW (lv_sub hl [2, 3, 4, 1, 0] rfl) h65 (fun _ _ H locs ls e hW hl => by cases e; exact J66 H locs ls hW hl)
        exact X11_net_L97_c _ _ _ FU _ _ _ _ _ hW (lv_sub hl [2, 3, 1, 0] rfl) h34 (fun _ H locs ls e hW hl => by cases e; exact J67 H locs ls hW hl)
      exact X11_net_L60_c _ FU _ _ _ _ _ _ hW (lv_sub hl [1, 2, 0] rfl) h31 (fun _ _ H locs ls e hW hl => by cases e; exact J68 H locs ls hW hl)
    · replace hf := ift_ hf c16
      refine lv_bipush (v := (-2)) hx hb dX11_net_55 (by decide) ?_
      obtain ⟨rfl, rfl⟩ := so2 hf
      exact kR _ _ _ _ hW dX11_net_57
  exact X11_net_L6_c _ _ _ FU _ _ _ _ _ hW (lv_sub hl [3, 2, 1, 0] rfl) h11 (fun _ H locs ls e hW hl => by cases e; exact J69 H locs ls hW hl)

abbrev rm_X11_image : Room := { frames := 2, cells := 0, slots := 0, locals := 85 }
set_option maxHeartbeats 4000000 in
set_option maxRecDepth 100000 in
theorem c_X11_image (l : Launch) (E : En) (S : St) (a1 : Int32) (r : Int32) (S1 : St) (hf : X11_image S a1 = some (r, S1)) : Mi l E yX11_image cX11_image 3 (some .int) rm_X11_image [.ref (E.ad 60), .int a1] S r S1 := by
  refine g_startI (cc := cX11_image) (n := 3) (by decide) (Nat.le_of_ble_eq_true rfl) ?_
  intro p e s m args below meth c Q H locs C kR hW ls hl
  obtain ⟨⟨hx, hb, hml, hown, hts⟩, hK, hT⟩ := id C
  have hl : lv_has ls 3 [(0, .ref (E.ad 60)), (1, .int a1)] := hl
  have X11_image_L14_c : ∀ (v1 : Int32) (res : St) (n : Nat) (v2 : Int32) (S : St) (H : Heap) (locs : List Loc) (ls : Array Slot), Ww E S s H locs → lv_has ls 3 [(0, .ref (E.ad 60)), (1, .int v1), (2, .int v2)] → X11_image_L14 v1 n v2 S = some res → (∀ (T : St) (H : Heap) (locs : List Loc) (ls : Array Slot), some T = some res → Ww E T s H locs → lv_has ls 3 [(0, .ref (E.ad 60)), (1, .int v1)] → W p l e rm_X11_image s m args below meth c H locs 0 0 Q (F0 m 45 ls [])) → W p l e rm_X11_image s m args below meth c H locs 0 0 Q (F0 m 14 ls []) := by
    intro v1 res n
    induction n with
    | zero =>
      intro v2 S H locs ls hW hl hf
      cases hf
    | succ n ih =>
      intro v2 S H locs ls hW hl hf kE
      unfold X11_image_L14 at hf
      refine lv_iload_n hx hb dX11_image_14 rfl (lv_at hl 2 rfl) ?_
      refine lv_sipush (v := 648) hx hb dX11_image_15 (by decide) ?_
      refine lv_icmp_ge (tgt := 45) hx hb dX11_image_18 (by decide) (fun c4 => ?_) (fun c4 => ?_)
      · replace hf := ift_ hf c4
        exact kE _ _ _ _ hf hW (lv_sub hl [0, 1] rfl)
      · replace hf := iff_ hf c4
        refine lv_aload_n hx hb dX11_image_21 rfl (lv_at hl 0 rfl) ?_
        refine g_get (ci := 11) (k := 15) (val := .ref (E.ad 74)) C g_us hW rfl rfl rfl (in_sid _ rfl) (by decide) f_RX11_50 rfl dX11_image_22 ?_
        refine lv_sipush (v := 648) hx hb dX11_image_25 (by decide) ?_
        refine lv_iload_n hx hb dX11_image_28 rfl (lv_at hl 1 rfl) ?_
        refine lv_imul hx hb dX11_image_29 ?_
        refine lv_iload_n hx hb dX11_image_30 rfl (lv_at hl 2 rfl) ?_
        refine lv_iadd hx hb dX11_image_31 ?_
        refine lv_aload_n hx hb dX11_image_32 rfl (lv_at hl 0 rfl) ?_
        refine g_get (ci := 11) (k := 0) (val := .ref (E.ad 61)) C g_us hW rfl rfl rfl (in_sid _ rfl) (by decide) f_RX11_7 rfl dX11_image_33 ?_
        refine lv_iload_n hx hb dX11_image_36 rfl (lv_at hl 2 rfl) ?_
        replace hf := bd_so hf
        obtain ⟨x5, h6, hf⟩ := hf
        refine g_iald C hW h6 dX11_image_37 ?_
        replace hf := bd_so hf
        obtain ⟨S7, h8, hf⟩ := hf
        refine g_iast C hW h8 dX11_image_38 (fun H locs hW => ?_)
        refine lv_iinc (v := (v2 + 1)) (lv' := [(2, .int (v2 + 1)), (0, .ref (E.ad 60)), (1, .int v1)]) hx hb dX11_image_39 hl (k := 2) rfl rfl (by decide) rfl (fun ls hl => ?_)
        refine lv_goto (tgt := 14) hx hb dX11_image_42 (by decide) ?_
        exact ih _ _ _ _ _ hW (lv_sub hl [1, 2, 0] rfl) hf kE
  have X11_image_L47_c : ∀ (v1 : Int32) (res : St) (n : Nat) (v2 : Int32) (S : St) (H : Heap) (locs : List Loc) (ls : Array Slot), Ww E S s H locs → lv_has ls 3 [(0, .ref (E.ad 60)), (1, .int v1), (2, .int v2)] → X11_image_L47 v1 n v2 S = some res → (∀ (T : St) (H : Heap) (locs : List Loc) (ls : Array Slot), some T = some res → Ww E T s H locs → lv_has ls 3 [(0, .ref (E.ad 60)), (1, .int v1)] → W p l e rm_X11_image s m args below meth c H locs 0 0 Q (F0 m 76 ls [])) → W p l e rm_X11_image s m args below meth c H locs 0 0 Q (F0 m 47 ls []) := by
    intro v1 res n
    induction n with
    | zero =>
      intro v2 S H locs ls hW hl hf
      cases hf
    | succ n ih =>
      intro v2 S H locs ls hW hl hf kE
      unfold X11_image_L47 at hf
      refine lv_iload_n hx hb dX11_image_47 rfl (lv_at hl 2 rfl) ?_
      refine lv_bipush (v := 8) hx hb dX11_image_48 (by decide) ?_
      refine lv_icmp_ge (tgt := 76) hx hb dX11_image_50 (by decide) (fun c11 => ?_) (fun c11 => ?_)
      · replace hf := ift_ hf c11
        exact kE _ _ _ _ hf hW (lv_sub hl [0, 1] rfl)
      · replace hf := iff_ hf c11
        refine lv_aload_n hx hb dX11_image_53 rfl (lv_at hl 0 rfl) ?_
        refine g_get (ci := 11) (k := 16) (val := .ref (E.ad 75)) C g_us hW rfl rfl rfl (in_sid _ rfl) (by decide) f_RX11_53 rfl dX11_image_54 ?_
        refine lv_bipush (v := 8) hx hb dX11_image_57 (by decide) ?_
        refine lv_iload_n hx hb dX11_image_59 rfl (lv_at hl 1 rfl) ?_
        refine lv_imul hx hb dX11_image_60 ?_
        refine lv_iload_n hx hb dX11_image_61 rfl (lv_at hl 2 rfl) ?_
        refine lv_iadd hx hb dX11_image_62 ?_
        refine lv_aload_n hx hb dX11_image_63 rfl (lv_at hl 0 rfl) ?_
        refine g_get (ci := 11) (k := 1) (val := .ref (E.ad 62)) C g_us hW rfl rfl rfl (in_sid _ rfl) (by decide) f_RX11_13 rfl dX11_image_64 ?_
        refine lv_iload_n hx hb dX11_image_67 rfl (lv_at hl 2 rfl) ?_
        replace hf := bd_so hf
        obtain ⟨x12, h13, hf⟩ := hf
        refine g_lald C hW h13 dX11_image_68 ?_
        replace hf := bd_so hf
        obtain ⟨S14, h15, hf⟩ := hf
        refine g_last C hW h15 dX11_image_69 (fun H locs hW => ?_)
        refine lv_iinc (v := (v2 + 1)) (lv' := [(2, .int (v2 + 1)), (0, .ref (E.ad 60)), (1, .int v1)]) hx hb dX11_image_70 hl (k := 2) rfl rfl (by decide) rfl (fun ls hl => ?_)
        refine lv_goto (tgt := 47) hx hb dX11_image_73 (by decide) ?_
        exact ih _ _ _ _ _ hW (lv_sub hl [1, 2, 0] rfl) hf kE
  unfold X11_image at hf
  refine lv_iload_n hx hb dX11_image_0 rfl (lv_at hl 1 rfl) ?_
  refine lv_i2l (v := (a1 : Int32).toInt64) hx hb dX11_image_1 rfl ?_
  refine lv_lconst (v := 0) hx hb dX11_image_2 (by decide) ?_
  refine lv_lconst (v := 1) hx hb dX11_image_3 (by decide) ?_
  replace hf := bd_so hf
  obtain ⟨x2, h1, hf⟩ := hf
  refine g_callSi (As := [.long ((a1 : Int32).toInt64), .long 0, .long 1]) (rest := []) C g_us hW hl.1 (c_X11_in l E S ((a1 : Int32).toInt64) 0 1 _ h1) k_RX11_72 rfl ⟨rfl, rfl⟩ ⟨Nat.le_of_ble_eq_true rfl, Nat.le_of_ble_eq_true rfl⟩ ⟨Nat.zero_le _, Nat.zero_le _⟩ _ rfl (Nat.le_of_ble_eq_true rfl) dX11_image_4 (fun H locs hW => ?_)
  refine lv_if_ne (tgt := 12) hx hb dX11_image_7 (by decide) (fun c3 => ?_) (fun c3 => ?_)
  · replace hf := iff_ hf c3
    refine lv_iconst (v := 0) hx hb dX11_image_12 (by decide) ?_
    refine lv_istore_n (lv' := [(2, .int 0), (0, .ref (E.ad 60)), (1, .int a1)]) hx hb dX11_image_13 rfl hl (by decide) rfl (fun ls hl => ?_)
    replace hf := bd_so hf
    obtain ⟨S9, h10, hf⟩ := hf
    have J21 : ∀ (H : Heap) (locs : List Loc) (ls : Array Slot), Ww E S9 s H locs → lv_has ls 3 [(0, .ref (E.ad 60)), (1, .int a1)] → W p l e rm_X11_image s m args below meth c H locs 0 0 Q (F0 m 45 ls []) := by
      intro H locs ls hW hl
      refine lv_iconst (v := 0) hx hb dX11_image_45 (by decide) ?_
      refine lv_istore_n (lv' := [(2, .int 0), (0, .ref (E.ad 60)), (1, .int a1)]) hx hb dX11_image_46 rfl hl (by decide) rfl (fun ls hl => ?_)
      replace hf := bd_so hf
      obtain ⟨S16, h17, hf⟩ := hf
      have J20 : ∀ (H : Heap) (locs : List Loc) (ls : Array Slot), Ww E S16 s H locs → lv_has ls 3 [(0, .ref (E.ad 60)), (1, .int a1)] → W p l e rm_X11_image s m args below meth c H locs 0 0 Q (F0 m 76 ls []) := by
        intro H locs ls hW hl
        refine lv_aload_n hx hb dX11_image_76 rfl (lv_at hl 0 rfl) ?_
        refine g_get (ci := 11) (k := 17) (val := .ref (E.ad 76)) C g_us hW rfl rfl rfl (in_sid _ rfl) (by decide) f_RX11_56 rfl dX11_image_77 ?_
        refine lv_iload_n hx hb dX11_image_80 rfl (lv_at hl 1 rfl) ?_
        refine lv_iconst (v := 1) hx hb dX11_image_81 (by decide) ?_
        replace hf := bd_so hf
        obtain ⟨S18, h19, hf⟩ := hf
        refine g_zast C hW h19 dX11_image_82 (fun H locs hW => ?_)
        refine lv_iconst (v := 1) hx hb dX11_image_83 (by decide) ?_
        obtain ⟨rfl, rfl⟩ := so2 hf
        exact kR _ _ _ _ hW dX11_image_84
      exact X11_image_L47_c _ _ FU _ _ _ _ _ hW (lv_sub hl [1, 2, 0] rfl) h17 (fun _ H locs ls e hW hl => by cases e; exact J20 H locs ls hW hl)
    exact X11_image_L14_c _ _ FU _ _ _ _ _ hW (lv_sub hl [1, 2, 0] rfl) h10 (fun _ H locs ls e hW hl => by cases e; exact J21 H locs ls hW hl)
  · replace hf := ift_ hf c3
    refine lv_iconst (v := (-1)) hx hb dX11_image_10 (by decide) ?_
    obtain ⟨rfl, rfl⟩ := so2 hf
    exact kR _ _ _ _ hW dX11_image_11

abbrev rm_X11_restore : Room := { frames := 2, cells := 0, slots := 0, locals := 85 }
set_option maxHeartbeats 4000000 in
set_option maxRecDepth 100000 in
theorem c_X11_restore (l : Launch) (E : En) (S : St) (a1 : Int32) (r : Int32) (S1 : St) (hf : X11_restore S a1 = some (r, S1)) : Mi l E yX11_restore cX11_restore 3 (some .int) rm_X11_restore [.ref (E.ad 60), .int a1] S r S1 := by
  refine g_startI (cc := cX11_restore) (n := 3) (by decide) (Nat.le_of_ble_eq_true rfl) ?_
  intro p e s m args below meth c Q H locs C kR hW ls hl
  obtain ⟨⟨hx, hb, hml, hown, hts⟩, hK, hT⟩ := id C
  have hl : lv_has ls 3 [(0, .ref (E.ad 60)), (1, .int a1)] := hl
  have X11_restore_L26_c : ∀ (v1 : Int32) (res : St) (n : Nat) (v2 : Int32) (S : St) (H : Heap) (locs : List Loc) (ls : Array Slot), Ww E S s H locs → lv_has ls 3 [(0, .ref (E.ad 60)), (1, .int v1), (2, .int v2)] → X11_restore_L26 v1 n v2 S = some res → (∀ (T : St) (H : Heap) (locs : List Loc) (ls : Array Slot), some T = some res → Ww E T s H locs → lv_has ls 3 [(0, .ref (E.ad 60)), (1, .int v1)] → W p l e rm_X11_restore s m args below meth c H locs 0 0 Q (F0 m 57 ls [])) → W p l e rm_X11_restore s m args below meth c H locs 0 0 Q (F0 m 26 ls []) := by
    intro v1 res n
    induction n with
    | zero =>
      intro v2 S H locs ls hW hl hf
      cases hf
    | succ n ih =>
      intro v2 S H locs ls hW hl hf kE
      unfold X11_restore_L26 at hf
      refine lv_iload_n hx hb dX11_restore_26 rfl (lv_at hl 2 rfl) ?_
      refine lv_sipush (v := 648) hx hb dX11_restore_27 (by decide) ?_
      refine lv_icmp_ge (tgt := 57) hx hb dX11_restore_30 (by decide) (fun c7 => ?_) (fun c7 => ?_)
      · replace hf := ift_ hf c7
        exact kE _ _ _ _ hf hW (lv_sub hl [0, 1] rfl)
      · replace hf := iff_ hf c7
        refine lv_aload_n hx hb dX11_restore_33 rfl (lv_at hl 0 rfl) ?_
        refine g_get (ci := 11) (k := 0) (val := .ref (E.ad 61)) C g_us hW rfl rfl rfl (in_sid _ rfl) (by decide) f_RX11_7 rfl dX11_restore_34 ?_
        refine lv_iload_n hx hb dX11_restore_37 rfl (lv_at hl 2 rfl) ?_
        refine lv_aload_n hx hb dX11_restore_38 rfl (lv_at hl 0 rfl) ?_
        refine g_get (ci := 11) (k := 15) (val := .ref (E.ad 74)) C g_us hW rfl rfl rfl (in_sid _ rfl) (by decide) f_RX11_50 rfl dX11_restore_39 ?_
        refine lv_sipush (v := 648) hx hb dX11_restore_42 (by decide) ?_
        refine lv_iload_n hx hb dX11_restore_45 rfl (lv_at hl 1 rfl) ?_
        refine lv_imul hx hb dX11_restore_46 ?_
        refine lv_iload_n hx hb dX11_restore_47 rfl (lv_at hl 2 rfl) ?_
        refine lv_iadd hx hb dX11_restore_48 ?_
        replace hf := bd_so hf
        obtain ⟨x8, h9, hf⟩ := hf
        refine g_iald C hW h9 dX11_restore_49 ?_
        replace hf := bd_so hf
        obtain ⟨S10, h11, hf⟩ := hf
        refine g_iast C hW h11 dX11_restore_50 (fun H locs hW => ?_)
        refine lv_iinc (v := (v2 + 1)) (lv' := [(2, .int (v2 + 1)), (0, .ref (E.ad 60)), (1, .int v1)]) hx hb dX11_restore_51 hl (k := 2) rfl rfl (by decide) rfl (fun ls hl => ?_)
        refine lv_goto (tgt := 26) hx hb dX11_restore_54 (by decide) ?_
        exact ih _ _ _ _ _ hW (lv_sub hl [1, 2, 0] rfl) hf kE
  have X11_restore_L59_c : ∀ (v1 : Int32) (res : St) (n : Nat) (v2 : Int32) (S : St) (H : Heap) (locs : List Loc) (ls : Array Slot), Ww E S s H locs → lv_has ls 3 [(0, .ref (E.ad 60)), (1, .int v1), (2, .int v2)] → X11_restore_L59 v1 n v2 S = some res → (∀ (T : St) (H : Heap) (locs : List Loc) (ls : Array Slot), some T = some res → Ww E T s H locs → lv_has ls 3 [] → W p l e rm_X11_restore s m args below meth c H locs 0 0 Q (F0 m 88 ls [])) → W p l e rm_X11_restore s m args below meth c H locs 0 0 Q (F0 m 59 ls []) := by
    intro v1 res n
    induction n with
    | zero =>
      intro v2 S H locs ls hW hl hf
      cases hf
    | succ n ih =>
      intro v2 S H locs ls hW hl hf kE
      unfold X11_restore_L59 at hf
      refine lv_iload_n hx hb dX11_restore_59 rfl (lv_at hl 2 rfl) ?_
      refine lv_bipush (v := 8) hx hb dX11_restore_60 (by decide) ?_
      refine lv_icmp_ge (tgt := 88) hx hb dX11_restore_62 (by decide) (fun c14 => ?_) (fun c14 => ?_)
      · replace hf := ift_ hf c14
        exact kE _ _ _ _ hf hW (lv_sub hl [] rfl)
      · replace hf := iff_ hf c14
        refine lv_aload_n hx hb dX11_restore_65 rfl (lv_at hl 0 rfl) ?_
        refine g_get (ci := 11) (k := 1) (val := .ref (E.ad 62)) C g_us hW rfl rfl rfl (in_sid _ rfl) (by decide) f_RX11_13 rfl dX11_restore_66 ?_
        refine lv_iload_n hx hb dX11_restore_69 rfl (lv_at hl 2 rfl) ?_
        refine lv_aload_n hx hb dX11_restore_70 rfl (lv_at hl 0 rfl) ?_
        refine g_get (ci := 11) (k := 16) (val := .ref (E.ad 75)) C g_us hW rfl rfl rfl (in_sid _ rfl) (by decide) f_RX11_53 rfl dX11_restore_71 ?_
        refine lv_bipush (v := 8) hx hb dX11_restore_74 (by decide) ?_
        refine lv_iload_n hx hb dX11_restore_76 rfl (lv_at hl 1 rfl) ?_
        refine lv_imul hx hb dX11_restore_77 ?_
        refine lv_iload_n hx hb dX11_restore_78 rfl (lv_at hl 2 rfl) ?_
        refine lv_iadd hx hb dX11_restore_79 ?_
        replace hf := bd_so hf
        obtain ⟨x15, h16, hf⟩ := hf
        refine g_lald C hW h16 dX11_restore_80 ?_
        replace hf := bd_so hf
        obtain ⟨S17, h18, hf⟩ := hf
        refine g_last C hW h18 dX11_restore_81 (fun H locs hW => ?_)
        refine lv_iinc (v := (v2 + 1)) (lv' := [(2, .int (v2 + 1)), (0, .ref (E.ad 60)), (1, .int v1)]) hx hb dX11_restore_82 hl (k := 2) rfl rfl (by decide) rfl (fun ls hl => ?_)
        refine lv_goto (tgt := 59) hx hb dX11_restore_85 (by decide) ?_
        exact ih _ _ _ _ _ hW (lv_sub hl [1, 2, 0] rfl) hf kE
  unfold X11_restore at hf
  refine lv_iload_n hx hb dX11_restore_0 rfl (lv_at hl 1 rfl) ?_
  refine lv_i2l (v := (a1 : Int32).toInt64) hx hb dX11_restore_1 rfl ?_
  refine lv_lconst (v := 0) hx hb dX11_restore_2 (by decide) ?_
  refine lv_lconst (v := 1) hx hb dX11_restore_3 (by decide) ?_
  replace hf := bd_so hf
  obtain ⟨x2, h1, hf⟩ := hf
  refine g_callSi (As := [.long ((a1 : Int32).toInt64), .long 0, .long 1]) (rest := []) C g_us hW hl.1 (c_X11_in l E S ((a1 : Int32).toInt64) 0 1 _ h1) k_RX11_72 rfl ⟨rfl, rfl⟩ ⟨Nat.le_of_ble_eq_true rfl, Nat.le_of_ble_eq_true rfl⟩ ⟨Nat.zero_le _, Nat.zero_le _⟩ _ rfl (Nat.le_of_ble_eq_true rfl) dX11_restore_4 (fun H locs hW => ?_)
  refine lv_if_ne (tgt := 12) hx hb dX11_restore_7 (by decide) (fun c3 => ?_) (fun c3 => ?_)
  · replace hf := iff_ hf c3
    refine lv_aload_n hx hb dX11_restore_12 rfl (lv_at hl 0 rfl) ?_
    refine g_get (ci := 11) (k := 17) (val := .ref (E.ad 76)) C g_us hW rfl rfl rfl (in_sid _ rfl) (by decide) f_RX11_56 rfl dX11_restore_13 ?_
    refine lv_iload_n hx hb dX11_restore_16 rfl (lv_at hl 1 rfl) ?_
    replace hf := bd_so hf
    obtain ⟨x4, h5, hf⟩ := hf
    refine g_zald C hW h5 dX11_restore_17 ?_
    refine lv_if_ne (tgt := 24) hx hb dX11_restore_18 (by decide) (fun c6 => ?_) (fun c6 => ?_)
    · replace hf := iff_ hf c6
      refine lv_iconst (v := 0) hx hb dX11_restore_24 (by decide) ?_
      refine lv_istore_n (lv' := [(2, .int 0), (0, .ref (E.ad 60)), (1, .int a1)]) hx hb dX11_restore_25 rfl hl (by decide) rfl (fun ls hl => ?_)
      replace hf := bd_so hf
      obtain ⟨S12, h13, hf⟩ := hf
      have J22 : ∀ (H : Heap) (locs : List Loc) (ls : Array Slot), Ww E S12 s H locs → lv_has ls 3 [(0, .ref (E.ad 60)), (1, .int a1)] → W p l e rm_X11_restore s m args below meth c H locs 0 0 Q (F0 m 57 ls []) := by
        intro H locs ls hW hl
        refine lv_iconst (v := 0) hx hb dX11_restore_57 (by decide) ?_
        refine lv_istore_n (lv' := [(2, .int 0), (0, .ref (E.ad 60)), (1, .int a1)]) hx hb dX11_restore_58 rfl hl (by decide) rfl (fun ls hl => ?_)
        replace hf := bd_so hf
        obtain ⟨S19, h20, hf⟩ := hf
        have J21 : ∀ (H : Heap) (locs : List Loc) (ls : Array Slot), Ww E S19 s H locs → lv_has ls 3 [] → W p l e rm_X11_restore s m args below meth c H locs 0 0 Q (F0 m 88 ls []) := by
          intro H locs ls hW hl
          refine lv_iconst (v := 1) hx hb dX11_restore_88 (by decide) ?_
          obtain ⟨rfl, rfl⟩ := so2 hf
          exact kR _ _ _ _ hW dX11_restore_89
        exact X11_restore_L59_c _ _ FU _ _ _ _ _ hW (lv_sub hl [1, 2, 0] rfl) h20 (fun _ H locs ls e hW hl => by cases e; exact J21 H locs ls hW hl)
      exact X11_restore_L26_c _ _ FU _ _ _ _ _ hW (lv_sub hl [1, 2, 0] rfl) h13 (fun _ H locs ls e hW hl => by cases e; exact J22 H locs ls hW hl)
    · replace hf := ift_ hf c6
      refine lv_bipush (v := (-4)) hx hb dX11_restore_21 (by decide) ?_
      obtain ⟨rfl, rfl⟩ := so2 hf
      exact kR _ _ _ _ hW dX11_restore_23
  · replace hf := ift_ hf c3
    refine lv_iconst (v := (-1)) hx hb dX11_restore_10 (by decide) ?_
    obtain ⟨rfl, rfl⟩ := so2 hf
    exact kR _ _ _ _ hW dX11_restore_11

abbrev rm_X11_sheet : Room := { frames := 3, cells := 0, slots := 0, locals := 105 }
set_option maxHeartbeats 4000000 in
set_option maxRecDepth 100000 in
theorem c_X11_sheet (l : Launch) (E : En) (S : St) (a1 : Int32) (a2 : Int32) (a3 : Int32) (r : Int32) (S1 : St) (hf : X11_sheet S a1 a2 a3 = some (r, S1)) : Mi l E yX11_sheet cX11_sheet 5 (some .int) rm_X11_sheet [.ref (E.ad 60), .int a1, .int a2, .int a3] S r S1 := by
  refine g_startI (cc := cX11_sheet) (n := 5) (by decide) (Nat.le_of_ble_eq_true rfl) ?_
  intro p e s m args below meth c Q H locs C kR hW ls hl
  obtain ⟨⟨hx, hb, hml, hown, hts⟩, hK, hT⟩ := id C
  have hl : lv_has ls 5 [(0, .ref (E.ad 60)), (1, .int a1), (2, .int a2), (3, .int a3)] := hl
  have X11_sheet_L46_c : ∀ (v1 : Int32) (v3 : Int32) (res : St) (n : Nat) (v4 : Int32) (S : St) (H : Heap) (locs : List Loc) (ls : Array Slot), Ww E S s H locs → lv_has ls 5 [(0, .ref (E.ad 60)), (1, .int v1), (3, .int v3), (4, .int v4)] → X11_sheet_L46 v1 v3 n v4 S = some res → (∀ (T : St) (H : Heap) (locs : List Loc) (ls : Array Slot), some T = some res → Ww E T s H locs → lv_has ls 5 [(3, .int v3)] → W p l e rm_X11_sheet s m args below meth c H locs 0 0 Q (F0 m 72 ls [])) → W p l e rm_X11_sheet s m args below meth c H locs 0 0 Q (F0 m 46 ls []) := by
    intro v1 v3 res n
    induction n with
    | zero =>
      intro v4 S H locs ls hW hl hf
      cases hf
    | succ n ih =>
      intro v4 S H locs ls hW hl hf kE
      unfold X11_sheet_L46 at hf
      refine lv_iload hx hb dX11_sheet_46 (lv_at hl 3 rfl) ?_
      refine lv_bipush (v := 40) hx hb dX11_sheet_48 (by decide) ?_
      refine lv_icmp_ge (tgt := 72) hx hb dX11_sheet_50 (by decide) (fun c13 => ?_) (fun c13 => ?_)
      · replace hf := ift_ hf c13
        exact kE _ _ _ _ hf hW (lv_sub hl [2] rfl)
      · replace hf := iff_ hf c13
        refine lv_aload_n hx hb dX11_sheet_53 rfl (lv_at hl 0 rfl) ?_
        refine g_get (ci := 11) (k := 20) (val := .ref (E.ad 79)) C g_us hW rfl rfl rfl (in_sid _ rfl) (by decide) f_RX11_66 rfl dX11_sheet_54 ?_
        refine lv_bipush (v := 40) hx hb dX11_sheet_57 (by decide) ?_
        refine lv_iload_n hx hb dX11_sheet_59 rfl (lv_at hl 1 rfl) ?_
        refine lv_imul hx hb dX11_sheet_60 ?_
        refine lv_iload hx hb dX11_sheet_61 (lv_at hl 3 rfl) ?_
        refine lv_iadd hx hb dX11_sheet_63 ?_
        refine lv_iconst (v := 0) hx hb dX11_sheet_64 (by decide) ?_
        replace hf := bd_so hf
        obtain ⟨S14, h15, hf⟩ := hf
        refine g_iast C hW h15 dX11_sheet_65 (fun H locs hW => ?_)
        refine lv_iinc (v := (v4 + 1)) (lv' := [(4, .int (v4 + 1)), (0, .ref (E.ad 60)), (1, .int v1), (3, .int v3)]) hx hb dX11_sheet_66 hl (k := 3) rfl rfl (by decide) rfl (fun ls hl => ?_)
        refine lv_goto (tgt := 46) hx hb dX11_sheet_69 (by decide) ?_
        exact ih _ _ _ _ _ hW (lv_sub hl [1, 2, 3, 0] rfl) hf kE
  unfold X11_sheet at hf
  refine lv_iload_n hx hb dX11_sheet_0 rfl (lv_at hl 1 rfl) ?_
  replace hf := bd_so hf
  obtain ⟨x2, h1, hf⟩ := hf
  refine g_callSi (As := [.int a1]) (rest := []) C g_us hW hl.1 (c_X11_isSheet l E S a1 _ h1) k_RX11_99 rfl ⟨rfl, rfl⟩ ⟨Nat.le_of_ble_eq_true rfl, Nat.le_of_ble_eq_true rfl⟩ ⟨Nat.zero_le _, Nat.zero_le _⟩ _ rfl (Nat.le_of_ble_eq_true rfl) dX11_sheet_1 (fun H locs hW => ?_)
  refine lv_if_eq (tgt := 20) hx hb dX11_sheet_4 (by decide) (fun c3 => ?_) (fun c3 => ?_)
  · replace hf := ift_ hf c3
    refine lv_iconst (v := (-1)) hx hb dX11_sheet_20 (by decide) ?_
    obtain ⟨rfl, rfl⟩ := so2 hf
    exact kR _ _ _ _ hW dX11_sheet_21
  · replace hf := iff_ hf c3
    refine lv_iload_n hx hb dX11_sheet_7 rfl (lv_at hl 2 rfl) ?_
    replace hf := bd_so hf
    obtain ⟨x5, h4, hf⟩ := hf
    refine g_callSi (As := [.int a2]) (rest := []) C g_us hW hl.1 (c_X11_isLane l E S a2 _ h4) k_RX11_102 rfl ⟨rfl, rfl⟩ ⟨Nat.le_of_ble_eq_true rfl, Nat.le_of_ble_eq_true rfl⟩ ⟨Nat.zero_le _, Nat.zero_le _⟩ _ rfl (Nat.le_of_ble_eq_true rfl) dX11_sheet_8 (fun H locs hW => ?_)
    refine lv_if_eq (tgt := 20) hx hb dX11_sheet_11 (by decide) (fun c6 => ?_) (fun c6 => ?_)
    · replace hf := ift_ hf c6
      refine lv_iconst (v := (-1)) hx hb dX11_sheet_20 (by decide) ?_
      obtain ⟨rfl, rfl⟩ := so2 hf
      exact kR _ _ _ _ hW dX11_sheet_21
    · replace hf := iff_ hf c6
      refine lv_iload_n hx hb dX11_sheet_14 rfl (lv_at hl 3 rfl) ?_
      refine lv_bipush (v := 40) hx hb dX11_sheet_15 (by decide) ?_
      refine lv_icmp_le (tgt := 22) hx hb dX11_sheet_17 (by decide) (fun c7 => ?_) (fun c7 => ?_)
      · replace hf := ift_ hf c7
        refine lv_iload_n hx hb dX11_sheet_22 rfl (lv_at hl 3 rfl) ?_
        refine lv_if_ge (tgt := 29) hx hb dX11_sheet_23 (by decide) (fun c8 => ?_) (fun c8 => ?_)
        · replace hf := ift_ hf c8
          refine lv_aload_n hx hb dX11_sheet_29 rfl (lv_at hl 0 rfl) ?_
          refine g_get (ci := 11) (k := 18) (val := .ref (E.ad 77)) C g_us hW rfl rfl rfl (in_sid _ rfl) (by decide) f_RX11_60 rfl dX11_sheet_30 ?_
          refine lv_iload_n hx hb dX11_sheet_33 rfl (lv_at hl 1 rfl) ?_
          refine lv_iload_n hx hb dX11_sheet_34 rfl (lv_at hl 2 rfl) ?_
          replace hf := bd_so hf
          obtain ⟨S9, h10, hf⟩ := hf
          refine g_iast C hW h10 dX11_sheet_35 (fun H locs hW => ?_)
          refine lv_aload_n hx hb dX11_sheet_36 rfl (lv_at hl 0 rfl) ?_
          refine g_get (ci := 11) (k := 19) (val := .ref (E.ad 78)) C g_us hW rfl rfl rfl (in_sid _ rfl) (by decide) f_RX11_63 rfl dX11_sheet_37 ?_
          refine lv_iload_n hx hb dX11_sheet_40 rfl (lv_at hl 1 rfl) ?_
          refine lv_iload_n hx hb dX11_sheet_41 rfl (lv_at hl 3 rfl) ?_
          replace hf := bd_so hf
          obtain ⟨S11, h12, hf⟩ := hf
          refine g_iast C hW h12 dX11_sheet_42 (fun H locs hW => ?_)
          refine lv_iconst (v := 0) hx hb dX11_sheet_43 (by decide) ?_
          refine lv_istore (lv' := [(4, .int 0), (0, .ref (E.ad 60)), (1, .int a1), (2, .int a2), (3, .int a3)]) hx hb dX11_sheet_44 hl (by decide) rfl (fun ls hl => ?_)
          replace hf := bd_so hf
          obtain ⟨S16, h17, hf⟩ := hf
          have J18 : ∀ (H : Heap) (locs : List Loc) (ls : Array Slot), Ww E S16 s H locs → lv_has ls 5 [(3, .int a3)] → W p l e rm_X11_sheet s m args below meth c H locs 0 0 Q (F0 m 72 ls []) := by
            intro H locs ls hW hl
            refine lv_iload_n hx hb dX11_sheet_72 rfl (lv_at hl 0 rfl) ?_
            obtain ⟨rfl, rfl⟩ := so2 hf
            exact kR _ _ _ _ hW dX11_sheet_73
          exact X11_sheet_L46_c _ _ _ FU _ _ _ _ _ hW (lv_sub hl [1, 2, 4, 0] rfl) h17 (fun _ H locs ls e hW hl => by cases e; exact J18 H locs ls hW hl)
        · replace hf := iff_ hf c8
          refine lv_bipush (v := (-14)) hx hb dX11_sheet_26 (by decide) ?_
          obtain ⟨rfl, rfl⟩ := so2 hf
          exact kR _ _ _ _ hW dX11_sheet_28
      · replace hf := iff_ hf c7
        refine lv_iconst (v := (-1)) hx hb dX11_sheet_20 (by decide) ?_
        obtain ⟨rfl, rfl⟩ := so2 hf
        exact kR _ _ _ _ hW dX11_sheet_21

abbrev rm_X11_drop : Room := { frames := 3, cells := 0, slots := 0, locals := 105 }
set_option maxHeartbeats 4000000 in
set_option maxRecDepth 100000 in
theorem c_X11_drop (l : Launch) (E : En) (S : St) (a1 : Int32) (r : Int32) (S1 : St) (hf : X11_drop S a1 = some (r, S1)) : Mi l E yX11_drop cX11_drop 2 (some .int) rm_X11_drop [.ref (E.ad 60), .int a1] S r S1 := by
  refine g_startI (cc := cX11_drop) (n := 2) (by decide) (Nat.le_of_ble_eq_true rfl) ?_
  intro p e s m args below meth c Q H locs C kR hW ls hl
  obtain ⟨⟨hx, hb, hml, hown, hts⟩, hK, hT⟩ := id C
  have hl : lv_has ls 2 [(0, .ref (E.ad 60)), (1, .int a1)] := hl
  unfold X11_drop at hf
  refine lv_iload_n hx hb dX11_drop_0 rfl (lv_at hl 1 rfl) ?_
  replace hf := bd_so hf
  obtain ⟨x2, h1, hf⟩ := hf
  refine g_callSi (As := [.int a1]) (rest := []) C g_us hW hl.1 (c_X11_isSheet l E S a1 _ h1) k_RX11_99 rfl ⟨rfl, rfl⟩ ⟨Nat.le_of_ble_eq_true rfl, Nat.le_of_ble_eq_true rfl⟩ ⟨Nat.zero_le _, Nat.zero_le _⟩ _ rfl (Nat.le_of_ble_eq_true rfl) dX11_drop_1 (fun H locs hW => ?_)
  refine lv_if_ne (tgt := 9) hx hb dX11_drop_4 (by decide) (fun c3 => ?_) (fun c3 => ?_)
  · replace hf := iff_ hf c3
    refine lv_aload_n hx hb dX11_drop_9 rfl (lv_at hl 0 rfl) ?_
    refine g_get (ci := 11) (k := 18) (val := .ref (E.ad 77)) C g_us hW rfl rfl rfl (in_sid _ rfl) (by decide) f_RX11_60 rfl dX11_drop_10 ?_
    refine lv_iload_n hx hb dX11_drop_13 rfl (lv_at hl 1 rfl) ?_
    replace hf := bd_so hf
    obtain ⟨x4, h5, hf⟩ := hf
    refine g_iald C hW h5 dX11_drop_14 ?_
    refine lv_if_ge (tgt := 21) hx hb dX11_drop_15 (by decide) (fun c6 => ?_) (fun c6 => ?_)
    · replace hf := ift_ hf c6
      refine lv_aload_n hx hb dX11_drop_21 rfl (lv_at hl 0 rfl) ?_
      refine g_get (ci := 11) (k := 18) (val := .ref (E.ad 77)) C g_us hW rfl rfl rfl (in_sid _ rfl) (by decide) f_RX11_60 rfl dX11_drop_22 ?_
      refine lv_iload_n hx hb dX11_drop_25 rfl (lv_at hl 1 rfl) ?_
      refine lv_iconst (v := (-1)) hx hb dX11_drop_26 (by decide) ?_
      replace hf := bd_so hf
      obtain ⟨S7, h8, hf⟩ := hf
      refine g_iast C hW h8 dX11_drop_27 (fun H locs hW => ?_)
      refine lv_aload_n hx hb dX11_drop_28 rfl (lv_at hl 0 rfl) ?_
      refine g_get (ci := 11) (k := 19) (val := .ref (E.ad 78)) C g_us hW rfl rfl rfl (in_sid _ rfl) (by decide) f_RX11_63 rfl dX11_drop_29 ?_
      refine lv_iload_n hx hb dX11_drop_32 rfl (lv_at hl 1 rfl) ?_
      replace hf := bd_so hf
      obtain ⟨x9, h10, hf⟩ := hf
      refine g_iald C hW h10 dX11_drop_33 ?_
      obtain ⟨rfl, rfl⟩ := so2 hf
      exact kR _ _ _ _ hW dX11_drop_34
    · replace hf := iff_ hf c6
      refine lv_bipush (v := (-11)) hx hb dX11_drop_18 (by decide) ?_
      obtain ⟨rfl, rfl⟩ := so2 hf
      exact kR _ _ _ _ hW dX11_drop_20
  · replace hf := ift_ hf c3
    refine lv_iconst (v := (-1)) hx hb dX11_drop_7 (by decide) ?_
    obtain ⟨rfl, rfl⟩ := so2 hf
    exact kR _ _ _ _ hW dX11_drop_8

abbrev rm_X11_item : Room := { frames := 3, cells := 0, slots := 0, locals := 105 }
set_option maxHeartbeats 4000000 in
set_option maxRecDepth 100000 in
theorem c_X11_item (l : Launch) (E : En) (S : St) (a1 : Int32) (a2 : Int32) (a3 : Int32) (a4 : Int32) (r : Int32) (S1 : St) (hf : X11_item S a1 a2 a3 a4 = some (r, S1)) : Mi l E yX11_item cX11_item 6 (some .int) rm_X11_item [.ref (E.ad 60), .int a1, .int a2, .int a3, .int a4] S r S1 := by
  refine g_startI (cc := cX11_item) (n := 6) (by decide) (Nat.le_of_ble_eq_true rfl) ?_
  intro p e s m args below meth c Q H locs C kR hW ls hl
  obtain ⟨⟨hx, hb, hml, hown, hts⟩, hK, hT⟩ := id C
  have hl : lv_has ls 6 [(0, .ref (E.ad 60)), (1, .int a1), (2, .int a2), (3, .int a3), (4, .int a4)] := hl
  unfold X11_item at hf
  refine lv_iload_n hx hb dX11_item_0 rfl (lv_at hl 1 rfl) ?_
  replace hf := bd_so hf
  obtain ⟨x2, h1, hf⟩ := hf
  refine g_callSi (As := [.int a1]) (rest := []) C g_us hW hl.1 (c_X11_isSheet l E S a1 _ h1) k_RX11_99 rfl ⟨rfl, rfl⟩ ⟨Nat.le_of_ble_eq_true rfl, Nat.le_of_ble_eq_true rfl⟩ ⟨Nat.zero_le _, Nat.zero_le _⟩ _ rfl (Nat.le_of_ble_eq_true rfl) dX11_item_1 (fun H locs hW => ?_)
  refine lv_if_eq (tgt := 14) hx hb dX11_item_4 (by decide) (fun c3 => ?_) (fun c3 => ?_)
  · replace hf := ift_ hf c3
    refine lv_iconst (v := (-1)) hx hb dX11_item_14 (by decide) ?_
    obtain ⟨rfl, rfl⟩ := so2 hf
    exact kR _ _ _ _ hW dX11_item_15
  · replace hf := iff_ hf c3
    refine lv_iload_n hx hb dX11_item_7 rfl (lv_at hl 2 rfl) ?_
    replace hf := bd_so hf
    obtain ⟨x5, h4, hf⟩ := hf
    refine g_callSi (As := [.int a2]) (rest := []) C g_us hW hl.1 (c_X11_isLane l E S a2 _ h4) k_RX11_102 rfl ⟨rfl, rfl⟩ ⟨Nat.le_of_ble_eq_true rfl, Nat.le_of_ble_eq_true rfl⟩ ⟨Nat.zero_le _, Nat.zero_le _⟩ _ rfl (Nat.le_of_ble_eq_true rfl) dX11_item_8 (fun H locs hW => ?_)
    refine lv_if_ne (tgt := 16) hx hb dX11_item_11 (by decide) (fun c6 => ?_) (fun c6 => ?_)
    · replace hf := iff_ hf c6
      refine lv_aload_n hx hb dX11_item_16 rfl (lv_at hl 0 rfl) ?_
      refine lv_iload_n hx hb dX11_item_17 rfl (lv_at hl 1 rfl) ?_
      refine lv_iload_n hx hb dX11_item_18 rfl (lv_at hl 2 rfl) ?_
      refine lv_iload_n hx hb dX11_item_19 rfl (lv_at hl 3 rfl) ?_
      refine lv_iconst (v := 1) hx hb dX11_item_20 (by decide) ?_
      replace hf := bd_so hf
      obtain ⟨x8, h7, hf⟩ := hf
      refine g_callVi (ci := 11) (As := [.int a1, .int a2, .int a3, .int 1]) (rest := []) C g_us hW hl.1 (c_X11_finds l E S a1 a2 a3 1 _ h7) rfl rfl rfl (in_sid _ rfl) k_RX11_105 rfl ⟨rfl, rfl⟩ ⟨Nat.le_of_ble_eq_true rfl, Nat.le_of_ble_eq_true rfl⟩ ⟨Nat.zero_le _, Nat.zero_le _⟩ _ rfl (Nat.le_of_ble_eq_true rfl) dX11_item_21 (fun H locs hW => ?_)
      refine lv_istore (lv' := [(5, .int x8), (0, .ref (E.ad 60)), (1, .int a1), (2, .int a2), (3, .int a3), (4, .int a4)]) hx hb dX11_item_24 hl (by decide) rfl (fun ls hl => ?_)
      refine lv_iload hx hb dX11_item_26 (lv_at hl 0 rfl) ?_
      refine lv_if_ge (tgt := 34) hx hb dX11_item_28 (by decide) (fun c9 => ?_) (fun c9 => ?_)
      · replace hf := ift_ hf c9
        refine lv_aload_n hx hb dX11_item_34 rfl (lv_at hl 1 rfl) ?_
        refine g_get (ci := 11) (k := 20) (val := .ref (E.ad 79)) C g_us hW rfl rfl rfl (in_sid _ rfl) (by decide) f_RX11_66 rfl dX11_item_35 ?_
        refine lv_bipush (v := 40) hx hb dX11_item_38 (by decide) ?_
        refine lv_iload_n hx hb dX11_item_40 rfl (lv_at hl 2 rfl) ?_
        refine lv_imul hx hb dX11_item_41 ?_
        refine lv_iload_n hx hb dX11_item_42 rfl (lv_at hl 4 rfl) ?_
        refine lv_iadd hx hb dX11_item_43 ?_
        refine lv_iload_n hx hb dX11_item_44 rfl (lv_at hl 3 rfl) ?_
        replace hf := bd_so hf
        obtain ⟨x11, h12, hf⟩ := hf
        have J13 : ∀ (H : Heap) (locs : List Loc) (ls : Array Slot), Ww E S s H locs → lv_has ls 6 [] → W p l e rm_X11_item s m args below meth c H locs 0 0 Q (F0 m 67 ls [.int x11, .int ((40 * a1) + a3), .ref (E.ad 79)]) := by
          intro H locs ls hW hl
          replace hf := bd_so hf
          obtain ⟨S14, h15, hf⟩ := hf
          refine g_iast C hW h15 dX11_item_67 (fun H locs hW => ?_)
          refine lv_iconst (v := 1) hx hb dX11_item_68 (by decide) ?_
          obtain ⟨rfl, rfl⟩ := so2 hf
          exact kR _ _ _ _ hW dX11_item_69
        clear hf
        have hf := h12
        clear h12
        refine lv_if_ne (tgt := 54) hx hb dX11_item_45 (by decide) (fun c10 => ?_) (fun c10 => ?_)
        · replace hf := iff_ hf c10
          refine lv_iload_n hx hb dX11_item_54 rfl (lv_at hl 3 rfl) ?_
          refine lv_iconst (v := 1) hx hb dX11_item_55 (by decide) ?_
          refine lv_icmp_ne (tgt := 65) hx hb dX11_item_56 (by decide) (fun c16 => ?_) (fun c16 => ?_)
          · replace hf := iff_ hf c16
            refine lv_iload hx hb dX11_item_65 (lv_at hl 5 rfl) ?_
            obtain rfl := so1 hf
            exact J13 _ _ _ hW (lv_sub hl [] rfl)
          · replace hf := ift_ hf c16
            refine lv_iload hx hb dX11_item_59 (lv_at hl 5 rfl) ?_
            refine lv_i2s (v := (a4 : Int32).toInt16.toInt32) hx hb dX11_item_61 rfl ?_
            refine lv_goto (tgt := 67) hx hb dX11_item_62 (by decide) ?_
            obtain rfl := so1 hf
            exact J13 _ _ _ hW (lv_sub hl [] rfl)
        · replace hf := ift_ hf c10
          refine lv_iload hx hb dX11_item_48 (lv_at hl 5 rfl) ?_
          refine lv_i2b (v := (a4 : Int32).toInt8.toInt32) hx hb dX11_item_50 rfl ?_
          refine lv_goto (tgt := 67) hx hb dX11_item_51 (by decide) ?_
          obtain rfl := so1 hf
          exact J13 _ _ _ hW (lv_sub hl [] rfl)
      · replace hf := iff_ hf c9
        refine lv_iload hx hb dX11_item_31 (lv_at hl 0 rfl) ?_
        obtain ⟨rfl, rfl⟩ := so2 hf
        exact kR _ _ _ _ hW dX11_item_33
    · replace hf := ift_ hf c6
      refine lv_iconst (v := (-1)) hx hb dX11_item_14 (by decide) ?_
      obtain ⟨rfl, rfl⟩ := so2 hf
      exact kR _ _ _ _ hW dX11_item_15

abbrev rm_X11_copy : Room := { frames := 3, cells := 0, slots := 0, locals := 105 }
set_option maxHeartbeats 4000000 in
set_option maxRecDepth 100000 in
theorem c_X11_copy (l : Launch) (E : En) (S : St) (a1 : Int32) (a2 : Int32) (a3 : Int32) (a4 : Int32) (a5 : Int32) (r : Int32) (S1 : St) (hf : X11_copy S a1 a2 a3 a4 a5 = some (r, S1)) : Mi l E yX11_copy cX11_copy 7 (some .int) rm_X11_copy [.ref (E.ad 60), .int a1, .int a2, .int a3, .int a4, .int a5] S r S1 := by
  refine g_startI (cc := cX11_copy) (n := 7) (by decide) (Nat.le_of_ble_eq_true rfl) ?_
  intro p e s m args below meth c Q H locs C kR hW ls hl
  obtain ⟨⟨hx, hb, hml, hown, hts⟩, hK, hT⟩ := id C
  have hl : lv_has ls 7 [(0, .ref (E.ad 60)), (1, .int a1), (2, .int a2), (3, .int a3), (4, .int a4), (5, .int a5)] := hl
  have X11_copy_L101_c : ∀ (v1 : Int32) (v2 : Int32) (v3 : Int32) (v4 : Int32) (v5 : Int32) (res : St) (n : Nat) (v6 : Int32) (S : St) (H : Heap) (locs : List Loc) (ls : Array Slot), Ww E S s H locs → lv_has ls 7 [(0, .ref (E.ad 60)), (1, .int v1), (2, .int v2), (3, .int v3), (4, .int v4), (5, .int v5), (6, .int v6)] → X11_copy_L101 v1 v2 v3 v4 v5 n v6 S = some res → (∀ (T : St) (H : Heap) (locs : List Loc) (ls : Array Slot), some T = some res → Ww E T s H locs → lv_has ls 7 [(0, .ref (E.ad 60)), (3, .int v3), (4, .int v4), (5, .int v5)] → W p l e rm_X11_copy s m args below meth c H locs 0 0 Q (F0 m 135 ls [])) → W p l e rm_X11_copy s m args below meth c H locs 0 0 Q (F0 m 101 ls []) := by
    intro v1 v2 v3 v4 v5 res n
    induction n with
    | zero =>
      intro v6 S H locs ls hW hl hf
      cases hf
    | succ n ih =>
      intro v6 S H locs ls hW hl hf kE
      unfold X11_copy_L101 at hf
      refine lv_iload hx hb dX11_copy_101 (lv_at hl 6 rfl) ?_
      refine lv_iload hx hb dX11_copy_103 (lv_at hl 5 rfl) ?_
      refine lv_icmp_ge (tgt := 135) hx hb dX11_copy_105 (by decide) (fun c29 => ?_) (fun c29 => ?_)
      · replace hf := ift_ hf c29
        exact kE _ _ _ _ hf hW (lv_sub hl [0, 3, 4, 5] rfl)
      · replace hf := iff_ hf c29
        refine lv_aload_n hx hb dX11_copy_108 rfl (lv_at hl 0 rfl) ?_
        refine g_get (ci := 11) (k := 21) (val := .ref (E.ad 80)) C g_us hW rfl rfl rfl (in_sid _ rfl) (by decide) f_RX11_69 rfl dX11_copy_109 ?_
        refine lv_iload hx hb dX11_copy_112 (lv_at hl 6 rfl) ?_
        refine lv_aload_n hx hb dX11_copy_114 rfl (lv_at hl 0 rfl) ?_
        refine g_get (ci := 11) (k := 20) (val := .ref (E.ad 79)) C g_us hW rfl rfl rfl (in_sid _ rfl) (by decide) f_RX11_66 rfl dX11_copy_115 ?_
        refine lv_bipush (v := 40) hx hb dX11_copy_118 (by decide) ?_
        refine lv_iload_n hx hb dX11_copy_120 rfl (lv_at hl 1 rfl) ?_
        refine lv_imul hx hb dX11_copy_121 ?_
        refine lv_iload_n hx hb dX11_copy_122 rfl (lv_at hl 2 rfl) ?_
        refine lv_iadd hx hb dX11_copy_123 ?_
        refine lv_iload hx hb dX11_copy_124 (lv_at hl 6 rfl) ?_
        refine lv_iadd hx hb dX11_copy_126 ?_
        replace hf := bd_so hf
        obtain ⟨x30, h31, hf⟩ := hf
        refine g_iald C hW h31 dX11_copy_127 ?_
        replace hf := bd_so hf
        obtain ⟨S32, h33, hf⟩ := hf
        refine g_iast C hW h33 dX11_copy_128 (fun H locs hW => ?_)
        refine lv_iinc (v := (v6 + 1)) (lv' := [(6, .int (v6 + 1)), (0, .ref (E.ad 60)), (1, .int v1), (2, .int v2), (3, .int v3), (4, .int v4), (5, .int v5)]) hx hb dX11_copy_129 hl (k := 6) rfl rfl (by decide) rfl (fun ls hl => ?_)
        refine lv_goto (tgt := 101) hx hb dX11_copy_132 (by decide) ?_
        exact ih _ _ _ _ _ hW (lv_sub hl [1, 2, 3, 4, 5, 6, 0] rfl) hf kE
  have X11_copy_L138_c : ∀ (v3 : Int32) (v4 : Int32) (v5 : Int32) (res : St) (n : Nat) (v6 : Int32) (S : St) (H : Heap) (locs : List Loc) (ls : Array Slot), Ww E S s H locs → lv_has ls 7 [(0, .ref (E.ad 60)), (3, .int v3), (4, .int v4), (5, .int v5), (6, .int v6)] → X11_copy_L138 v3 v4 v5 n v6 S = some res → (∀ (T : St) (H : Heap) (locs : List Loc) (ls : Array Slot), some T = some res → Ww E T s H locs → lv_has ls 7 [(5, .int v5)] → W p l e rm_X11_copy s m args below meth c H locs 0 0 Q (F0 m 173 ls [])) → W p l e rm_X11_copy s m args below meth c H locs 0 0 Q (F0 m 138 ls []) := by
    intro v3 v4 v5 res n
    induction n with
    | zero =>
      intro v6 S H locs ls hW hl hf
      cases hf
    | succ n ih =>
      intro v6 S H locs ls hW hl hf kE
      unfold X11_copy_L138 at hf
      refine lv_iload hx hb dX11_copy_138 (lv_at hl 4 rfl) ?_
      refine lv_iload hx hb dX11_copy_140 (lv_at hl 3 rfl) ?_
      refine lv_icmp_ge (tgt := 173) hx hb dX11_copy_142 (by decide) (fun c36 => ?_) (fun c36 => ?_)
      · replace hf := ift_ hf c36
        exact kE _ _ _ _ hf hW (lv_sub hl [3] rfl)
      · replace hf := iff_ hf c36
        refine lv_aload_n hx hb dX11_copy_145 rfl (lv_at hl 0 rfl) ?_
        refine g_get (ci := 11) (k := 20) (val := .ref (E.ad 79)) C g_us hW rfl rfl rfl (in_sid _ rfl) (by decide) f_RX11_66 rfl dX11_copy_146 ?_
        refine lv_bipush (v := 40) hx hb dX11_copy_149 (by decide) ?_
        refine lv_iload_n hx hb dX11_copy_151 rfl (lv_at hl 1 rfl) ?_
        refine lv_imul hx hb dX11_copy_152 ?_
        refine lv_iload hx hb dX11_copy_153 (lv_at hl 2 rfl) ?_
        refine lv_iadd hx hb dX11_copy_155 ?_
        refine lv_iload hx hb dX11_copy_156 (lv_at hl 4 rfl) ?_
        refine lv_iadd hx hb dX11_copy_158 ?_
        refine lv_aload_n hx hb dX11_copy_159 rfl (lv_at hl 0 rfl) ?_
        refine g_get (ci := 11) (k := 21) (val := .ref (E.ad 80)) C g_us hW rfl rfl rfl (in_sid _ rfl) (by decide) f_RX11_69 rfl dX11_copy_160 ?_
        refine lv_iload hx hb dX11_copy_163 (lv_at hl 4 rfl) ?_
        replace hf := bd_so hf
        obtain ⟨x37, h38, hf⟩ := hf
        refine g_iald C hW h38 dX11_copy_165 ?_
        replace hf := bd_so hf
        obtain ⟨S39, h40, hf⟩ := hf
        refine g_iast C hW h40 dX11_copy_166 (fun H locs hW => ?_)
        refine lv_iinc (v := (v6 + 1)) (lv' := [(6, .int (v6 + 1)), (0, .ref (E.ad 60)), (3, .int v3), (4, .int v4), (5, .int v5)]) hx hb dX11_copy_167 hl (k := 4) rfl rfl (by decide) rfl (fun ls hl => ?_)
        refine lv_goto (tgt := 138) hx hb dX11_copy_170 (by decide) ?_
        exact ih _ _ _ _ _ hW (lv_sub hl [1, 2, 3, 4, 0] rfl) hf kE
  unfold X11_copy at hf
  refine lv_iload_n hx hb dX11_copy_0 rfl (lv_at hl 1 rfl) ?_
  replace hf := bd_so hf
  obtain ⟨x2, h1, hf⟩ := hf
  refine g_callSi (As := [.int a1]) (rest := []) C g_us hW hl.1 (c_X11_isSheet l E S a1 _ h1) k_RX11_99 rfl ⟨rfl, rfl⟩ ⟨Nat.le_of_ble_eq_true rfl, Nat.le_of_ble_eq_true rfl⟩ ⟨Nat.zero_le _, Nat.zero_le _⟩ _ rfl (Nat.le_of_ble_eq_true rfl) dX11_copy_1 (fun H locs hW => ?_)
  refine lv_if_eq (tgt := 14) hx hb dX11_copy_4 (by decide) (fun c3 => ?_) (fun c3 => ?_)
  · replace hf := ift_ hf c3
    refine lv_iconst (v := (-1)) hx hb dX11_copy_14 (by decide) ?_
    obtain ⟨rfl, rfl⟩ := so2 hf
    exact kR _ _ _ _ hW dX11_copy_15
  · replace hf := iff_ hf c3
    refine lv_iload_n hx hb dX11_copy_7 rfl (lv_at hl 3 rfl) ?_
    replace hf := bd_so hf
    obtain ⟨x5, h4, hf⟩ := hf
    refine g_callSi (As := [.int a3]) (rest := []) C g_us hW hl.1 (c_X11_isSheet l E S a3 _ h4) k_RX11_99 rfl ⟨rfl, rfl⟩ ⟨Nat.le_of_ble_eq_true rfl, Nat.le_of_ble_eq_true rfl⟩ ⟨Nat.zero_le _, Nat.zero_le _⟩ _ rfl (Nat.le_of_ble_eq_true rfl) dX11_copy_8 (fun H locs hW => ?_)
    refine lv_if_ne (tgt := 16) hx hb dX11_copy_11 (by decide) (fun c6 => ?_) (fun c6 => ?_)
    · replace hf := iff_ hf c6
      refine lv_aload_n hx hb dX11_copy_16 rfl (lv_at hl 0 rfl) ?_
      refine g_get (ci := 11) (k := 18) (val := .ref (E.ad 77)) C g_us hW rfl rfl rfl (in_sid _ rfl) (by decide) f_RX11_60 rfl dX11_copy_17 ?_
      refine lv_iload_n hx hb dX11_copy_20 rfl (lv_at hl 1 rfl) ?_
      replace hf := bd_so hf
      obtain ⟨x7, h8, hf⟩ := hf
      refine g_iald C hW h8 dX11_copy_21 ?_
      refine lv_if_lt (tgt := 34) hx hb dX11_copy_22 (by decide) (fun c9 => ?_) (fun c9 => ?_)
      · replace hf := ift_ hf c9
        refine lv_bipush (v := (-11)) hx hb dX11_copy_34 (by decide) ?_
        obtain ⟨rfl, rfl⟩ := so2 hf
        exact kR _ _ _ _ hW dX11_copy_36
      · replace hf := iff_ hf c9
        refine lv_aload_n hx hb dX11_copy_25 rfl (lv_at hl 0 rfl) ?_
        refine g_get (ci := 11) (k := 18) (val := .ref (E.ad 77)) C g_us hW rfl rfl rfl (in_sid _ rfl) (by decide) f_RX11_60 rfl dX11_copy_26 ?_
        refine lv_iload_n hx hb dX11_copy_29 rfl (lv_at hl 3 rfl) ?_
        replace hf := bd_so hf
        obtain ⟨x10, h11, hf⟩ := hf
        refine g_iald C hW h11 dX11_copy_30 ?_
        refine lv_if_ge (tgt := 37) hx hb dX11_copy_31 (by decide) (fun c12 => ?_) (fun c12 => ?_)
        · replace hf := ift_ hf c12
          refine lv_aload_n hx hb dX11_copy_37 rfl (lv_at hl 0 rfl) ?_
          refine g_get (ci := 11) (k := 18) (val := .ref (E.ad 77)) C g_us hW rfl rfl rfl (in_sid _ rfl) (by decide) f_RX11_60 rfl dX11_copy_38 ?_
          refine lv_iload_n hx hb dX11_copy_41 rfl (lv_at hl 1 rfl) ?_
          replace hf := bd_so hf
          obtain ⟨x13, h14, hf⟩ := hf
          refine g_iald C hW h14 dX11_copy_42 ?_
          refine lv_aload_n hx hb dX11_copy_43 rfl (lv_at hl 0 rfl) ?_
          refine g_get (ci := 11) (k := 18) (val := .ref (E.ad 77)) C g_us hW rfl rfl rfl (in_sid _ rfl) (by decide) f_RX11_60 rfl dX11_copy_44 ?_
          refine lv_iload_n hx hb dX11_copy_47 rfl (lv_at hl 3 rfl) ?_
          replace hf := bd_so hf
          obtain ⟨x15, h16, hf⟩ := hf
          refine g_iald C hW h16 dX11_copy_48 ?_
          refine lv_icmp_eq (tgt := 55) hx hb dX11_copy_49 (by decide) (fun c17 => ?_) (fun c17 => ?_)
          · replace hf := ift_ hf c17
            refine lv_iload hx hb dX11_copy_55 (lv_at hl 5 rfl) ?_
            refine lv_if_lt (tgt := 95) hx hb dX11_copy_57 (by decide) (fun c18 => ?_) (fun c18 => ?_)
            · replace hf := ift_ hf c18
              refine lv_bipush (v := (-13)) hx hb dX11_copy_95 (by decide) ?_
              obtain ⟨rfl, rfl⟩ := so2 hf
              exact kR _ _ _ _ hW dX11_copy_97
            · replace hf := iff_ hf c18
              refine lv_aload_n hx hb dX11_copy_60 rfl (lv_at hl 0 rfl) ?_
              refine lv_iload_n hx hb dX11_copy_61 rfl (lv_at hl 1 rfl) ?_
              refine lv_aload_n hx hb dX11_copy_62 rfl (lv_at hl 0 rfl) ?_
              refine g_get (ci := 11) (k := 18) (val := .ref (E.ad 77)) C g_us hW rfl rfl rfl (in_sid _ rfl) (by decide) f_RX11_60 rfl dX11_copy_63 ?_
              refine lv_iload_n hx hb dX11_copy_66 rfl (lv_at hl 1 rfl) ?_
              replace hf := bd_so hf
              obtain ⟨x19, h20, hf⟩ := hf
              refine g_iald C hW h20 dX11_copy_67 ?_
              refine lv_iload_n hx hb dX11_copy_68 rfl (lv_at hl 2 rfl) ?_
              refine lv_iload hx hb dX11_copy_69 (lv_at hl 5 rfl) ?_
              replace hf := bd_so hf
              obtain ⟨x22, h21, hf⟩ := hf
              refine g_callVi (ci := 11) (As := [.int a1, .int x19, .int a2, .int a5]) (rest := []) C g_us hW hl.1 (c_X11_finds l E S a1 x19 a2 a5 _ h21) rfl rfl rfl (in_sid _ rfl) k_RX11_105 rfl ⟨rfl, rfl⟩ ⟨Nat.le_of_ble_eq_true rfl, Nat.le_of_ble_eq_true rfl⟩ ⟨Nat.zero_le _, Nat.zero_le _⟩ _ rfl (Nat.le_of_ble_eq_true rfl) dX11_copy_71 (fun H locs hW => ?_)
              refine lv_if_lt (tgt := 95) hx hb dX11_copy_74 (by decide) (fun c23 => ?_) (fun c23 => ?_)
              · replace hf := ift_ hf c23
                refine lv_bipush (v := (-13)) hx hb dX11_copy_95 (by decide) ?_
                obtain ⟨rfl, rfl⟩ := so2 hf
                exact kR _ _ _ _ hW dX11_copy_97
              · replace hf := iff_ hf c23
                refine lv_aload_n hx hb dX11_copy_77 rfl (lv_at hl 0 rfl) ?_
                refine lv_iload_n hx hb dX11_copy_78 rfl (lv_at hl 3 rfl) ?_
                refine lv_aload_n hx hb dX11_copy_79 rfl (lv_at hl 0 rfl) ?_
                refine g_get (ci := 11) (k := 18) (val := .ref (E.ad 77)) C g_us hW rfl rfl rfl (in_sid _ rfl) (by decide) f_RX11_60 rfl dX11_copy_80 ?_
                refine lv_iload_n hx hb dX11_copy_83 rfl (lv_at hl 3 rfl) ?_
                replace hf := bd_so hf
                obtain ⟨x24, h25, hf⟩ := hf
                refine g_iald C hW h25 dX11_copy_84 ?_
                refine lv_iload hx hb dX11_copy_85 (lv_at hl 4 rfl) ?_
                refine lv_iload hx hb dX11_copy_87 (lv_at hl 5 rfl) ?_
                replace hf := bd_so hf
                obtain ⟨x27, h26, hf⟩ := hf
                refine g_callVi (ci := 11) (As := [.int a3, .int x24, .int a4, .int a5]) (rest := []) C g_us hW hl.1 (c_X11_finds l E S a3 x24 a4 a5 _ h26) rfl rfl rfl (in_sid _ rfl) k_RX11_105 rfl ⟨rfl, rfl⟩ ⟨Nat.le_of_ble_eq_true rfl, Nat.le_of_ble_eq_true rfl⟩ ⟨Nat.zero_le _, Nat.zero_le _⟩ _ rfl (Nat.le_of_ble_eq_true rfl) dX11_copy_89 (fun H locs hW => ?_)
                refine lv_if_ge (tgt := 98) hx hb dX11_copy_92 (by decide) (fun c28 => ?_) (fun c28 => ?_)
                · replace hf := ift_ hf c28
                  refine lv_iconst (v := 0) hx hb dX11_copy_98 (by decide) ?_
                  refine lv_istore (lv' := [(6, .int 0), (0, .ref (E.ad 60)), (1, .int a1), (2, .int a2), (3, .int a3), (4, .int a4), (5, .int a5)]) hx hb dX11_copy_99 hl (by decide) rfl (fun ls hl => ?_)
                  replace hf := bd_so hf
                  obtain ⟨S34, h35, hf⟩ := hf
                  have J44 : ∀ (H : Heap) (locs : List Loc) (ls : Array Slot), Ww E S34 s H locs → lv_has ls 7 [(0, .ref (E.ad 60)), (3, .int a3), (4, .int a4), (5, .int a5)] → W p l e rm_X11_copy s m args below meth c H locs 0 0 Q (F0 m 135 ls []) := by
                    intro H locs ls hW hl
                    refine lv_iconst (v := 0) hx hb dX11_copy_135 (by decide) ?_
                    refine lv_istore (lv' := [(6, .int 0), (0, .ref (E.ad 60)), (3, .int a3), (4, .int a4), (5, .int a5)]) hx hb dX11_copy_136 hl (by decide) rfl (fun ls hl => ?_)
                    replace hf := bd_so hf
                    obtain ⟨S41, h42, hf⟩ := hf
                    have J43 : ∀ (H : Heap) (locs : List Loc) (ls : Array Slot), Ww E S41 s H locs → lv_has ls 7 [(5, .int a5)] → W p l e rm_X11_copy s m args below meth c H locs 0 0 Q (F0 m 173 ls []) := by
                      intro H locs ls hW hl
                      refine lv_iload hx hb dX11_copy_173 (lv_at hl 0 rfl) ?_
                      obtain ⟨rfl, rfl⟩ := so2 hf
                      exact kR _ _ _ _ hW dX11_copy_175
                    exact X11_copy_L138_c _ _ _ _ FU _ _ _ _ _ hW (lv_sub hl [1, 2, 3, 4, 0] rfl) h42 (fun _ H locs ls e hW hl => by cases e; exact J43 H locs ls hW hl)
                  exact X11_copy_L101_c _ _ _ _ _ _ FU _ _ _ _ _ hW (lv_sub hl [1, 2, 3, 4, 5, 6, 0] rfl) h35 (fun _ H locs ls e hW hl => by cases e; exact J44 H locs ls hW hl)
                · replace hf := iff_ hf c28
                  refine lv_bipush (v := (-13)) hx hb dX11_copy_95 (by decide) ?_
                  obtain ⟨rfl, rfl⟩ := so2 hf
                  exact kR _ _ _ _ hW dX11_copy_97
          · replace hf := iff_ hf c17
            refine lv_bipush (v := (-12)) hx hb dX11_copy_52 (by decide) ?_
            obtain ⟨rfl, rfl⟩ := so2 hf
            exact kR _ _ _ _ hW dX11_copy_54
        · replace hf := iff_ hf c12
          refine lv_bipush (v := (-11)) hx hb dX11_copy_34 (by decide) ?_
          obtain ⟨rfl, rfl⟩ := so2 hf
          exact kR _ _ _ _ hW dX11_copy_36
    · replace hf := ift_ hf c6
      refine lv_iconst (v := (-1)) hx hb dX11_copy_14 (by decide) ?_
      obtain ⟨rfl, rfl⟩ := so2 hf
      exact kR _ _ _ _ hW dX11_copy_15
