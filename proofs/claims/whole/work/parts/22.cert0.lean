abbrev rm_X4_gather : Room := { frames := 3, cells := 0, slots := 0, locals := 103 }
set_option maxHeartbeats 4000000 in
set_option maxRecDepth 100000 in
theorem c_X4_gather (l : Launch) (E : En) (S : St) (S1 : St) (hf : X4_gather S  = some S1) : Mv l E yX4_gather cX4_gather 3 none rm_X4_gather [.ref (E.ad 35), .ref (E.ad 2)] S S1 := by
  refine g_startV (cc := cX4_gather) (n := 3) (by decide) (Nat.le_of_ble_eq_true rfl) ?_
  intro p e s m args below meth c Q H locs C kR hW ls hl
  obtain ⟨⟨hx, hb, hml, hown, hts⟩, hK, hT⟩ := id C
  have hl : lv_has ls 3 [(0, .ref (E.ad 35)), (1, .ref (E.ad 2))] := hl
  have X4_gather_L7_c : ∀ (res : St) (n : Nat) (v2 : Int32) (S : St) (H : Heap) (locs : List Loc) (ls : Array Slot), Ww E S s H locs → lv_has ls 3 [(0, .ref (E.ad 35)), (1, .ref (E.ad 2)), (2, .int v2)] → X4_gather_L7  n v2 S = some res → (∀ (T : St) (H : Heap) (locs : List Loc) (ls : Array Slot), some T = some res → Ww E T s H locs → lv_has ls 3 [] → W p l e rm_X4_gather s m args below meth c H locs 0 0 Q (F0 m 58 ls [])) → W p l e rm_X4_gather s m args below meth c H locs 0 0 Q (F0 m 7 ls []) := by
    intro  res n
    induction n with
    | zero =>
      intro v2 S H locs ls hW hl hf
      cases hf
    | succ n ih =>
      intro v2 S H locs ls hW hl hf kE
      unfold X4_gather_L7 at hf
      refine lv_iload_n hx hb dX4_gather_7 rfl (lv_at hl 2 rfl) ?_
      refine lv_aload_n hx hb dX4_gather_8 rfl (lv_at hl 1 rfl) ?_
      refine g_get (ci := 6) (k := 0) (val := .int (rI S 2 0)) C g_us hW rfl rfl rfl (in_sid _ rfl) (by decide) f_RX4_52 rfl dX4_gather_9 ?_
      refine lv_icmp_ge (tgt := 58) hx hb dX4_gather_12 (by decide) (fun c3 => ?_) (fun c3 => ?_)
      · replace hf := ift_ hf c3
        exact kE _ _ _ _ hf hW (lv_sub hl [] rfl)
      · replace hf := iff_ hf c3
        refine lv_aload_n hx hb dX4_gather_15 rfl (lv_at hl 0 rfl) ?_
        refine g_get (ci := 4) (k := 0) (val := .int (rI S 35 0)) C g_us hW rfl rfl rfl (in_sid _ rfl) (by decide) f_RX4_34 rfl dX4_gather_16 ?_
        refine lv_bipush (v := 6) hx hb dX4_gather_19 (by decide) ?_
        refine lv_icmp_ge (tgt := 58) hx hb dX4_gather_21 (by decide) (fun c4 => ?_) (fun c4 => ?_)
        · replace hf := ift_ hf c4
          exact kE _ _ _ _ hf hW (lv_sub hl [] rfl)
        · replace hf := iff_ hf c4
          refine lv_aload_n hx hb dX4_gather_24 rfl (lv_at hl 1 rfl) ?_
          refine lv_iload_n hx hb dX4_gather_25 rfl (lv_at hl 2 rfl) ?_
          replace hf := bd_so hf
          obtain ⟨x6, h5, hf⟩ := hf
          refine g_callVi (ci := 6) (As := [.int v2]) (rest := []) C g_us hW hl.1 (c_X6_isCut l E S v2 _ h5) rfl rfl rfl (in_sid _ rfl) k_RX4_57 rfl ⟨rfl, rfl⟩ ⟨Nat.le_of_ble_eq_true rfl, Nat.le_of_ble_eq_true rfl⟩ ⟨Nat.zero_le _, Nat.zero_le _⟩ _ rfl (Nat.le_of_ble_eq_true rfl) dX4_gather_26 (fun H locs hW => ?_)
          replace hf := bd_so hf
          obtain ⟨S8, h9, hf⟩ := hf
          have J10 : ∀ (H : Heap) (locs : List Loc) (ls : Array Slot), Ww E S8 s H locs → lv_has ls 3 [(0, .ref (E.ad 35)), (1, .ref (E.ad 2)), (2, .int v2)] → W p l e rm_X4_gather s m args below meth c H locs 0 0 Q (F0 m 52 ls []) := by
            intro H locs ls hW hl
            refine lv_iinc (v := (v2 + 1)) (lv' := [(2, .int (v2 + 1)), (0, .ref (E.ad 35)), (1, .ref (E.ad 2))]) hx hb dX4_gather_52 hl (k := 2) rfl rfl (by decide) rfl (fun ls hl => ?_)
            refine lv_goto (tgt := 7) hx hb dX4_gather_55 (by decide) ?_
            exact ih _ _ _ _ _ hW (lv_sub hl [1, 2, 0] rfl) hf kE
          clear hf
          have hf := h9
          clear h9
          refine lv_if_ne (tgt := 52) hx hb dX4_gather_29 (by decide) (fun c7 => ?_) (fun c7 => ?_)
          · replace hf := iff_ hf c7
            obtain rfl := so1 hf
            exact J10 _ _ _ hW (lv_sub hl [0, 1, 2] rfl)
          · replace hf := ift_ hf c7
            refine lv_aload_n hx hb dX4_gather_32 rfl (lv_at hl 0 rfl) ?_
            refine g_get (ci := 4) (k := 1) (val := .ref (E.ad 36)) C g_us hW rfl rfl rfl (in_sid _ rfl) (by decide) f_RX4_9 rfl dX4_gather_33 ?_
            refine lv_aload_n hx hb dX4_gather_36 rfl (lv_at hl 0 rfl) ?_
            refine g_get (ci := 4) (k := 0) (val := .int (rI S 35 0)) C g_us hW rfl rfl rfl (in_sid _ rfl) (by decide) f_RX4_34 rfl dX4_gather_37 ?_
            refine lv_iload_n hx hb dX4_gather_40 rfl (lv_at hl 2 rfl) ?_
            replace hf := bd_so hf
            obtain ⟨S11, h12, hf⟩ := hf
            refine g_iast C hW h12 dX4_gather_41 (fun H locs hW => ?_)
            refine lv_aload_n hx hb dX4_gather_42 rfl (lv_at hl 0 rfl) ?_
            refine lv_dup hx hb dX4_gather_43 rfl ?_
            refine g_get (ci := 4) (k := 0) (val := .int (rI S11 35 0)) C g_us hW rfl rfl rfl (in_sid _ rfl) (by decide) f_RX4_34 rfl dX4_gather_44 ?_
            refine lv_iconst (v := 1) hx hb dX4_gather_47 (by decide) ?_
            refine lv_iadd hx hb dX4_gather_48 ?_
            replace hf := bd_so hf
            obtain ⟨S13, h14, hf⟩ := hf
            refine g_putI (ci := 4) (k := 0) C g_us hW rfl rfl rfl (in_sid _ rfl) (by decide) f_RX4_34 rfl rfl rfl h14 dX4_gather_49 (fun H locs hW => ?_)
            obtain rfl := so1 hf
            exact J10 _ _ _ hW (lv_sub hl [0, 1, 2] rfl)
  unfold X4_gather at hf
  refine lv_aload_n hx hb dX4_gather_0 rfl (lv_at hl 0 rfl) ?_
  refine lv_iconst (v := 0) hx hb dX4_gather_1 (by decide) ?_
  replace hf := bd_so hf
  obtain ⟨S1, h2, hf⟩ := hf
  refine g_putI (ci := 4) (k := 0) C g_us hW rfl rfl rfl (in_sid _ rfl) (by decide) f_RX4_34 rfl rfl rfl h2 dX4_gather_2 (fun H locs hW => ?_)
  refine lv_iconst (v := 0) hx hb dX4_gather_5 (by decide) ?_
  refine lv_istore_n (lv' := [(2, .int 0), (0, .ref (E.ad 35)), (1, .ref (E.ad 2))]) hx hb dX4_gather_6 rfl hl (by decide) rfl (fun ls hl => ?_)
  replace hf := bd_so hf
  obtain ⟨S15, h16, hf⟩ := hf
  have J17 : ∀ (H : Heap) (locs : List Loc) (ls : Array Slot), Ww E S15 s H locs → lv_has ls 3 [] → W p l e rm_X4_gather s m args below meth c H locs 0 0 Q (F0 m 58 ls []) := by
    intro H locs ls hW hl
    obtain rfl := so1 hf
    exact kR _ _ _ _ hW dX4_gather_58
  exact X4_gather_L7_c _ FU _ _ _ _ _ hW (lv_sub hl [1, 2, 0] rfl) h16 (fun _ H locs ls e hW hl => by cases e; exact J17 H locs ls hW hl)

abbrev rm_X4_takeLeaf : Room := { frames := 1, cells := 0, slots := 0, locals := 60 }
set_option maxHeartbeats 4000000 in
set_option maxRecDepth 100000 in
theorem c_X4_takeLeaf (l : Launch) (E : En) (S : St) (r : Int32) (S1 : St) (hf : X4_takeLeaf S  = some (r, S1)) : Mi l E yX4_takeLeaf cX4_takeLeaf 2 (some .int) rm_X4_takeLeaf [.ref (E.ad 35)] S r S1 := by
  refine g_startI (cc := cX4_takeLeaf) (n := 2) (by decide) (Nat.le_of_ble_eq_true rfl) ?_
  intro p e s m args below meth c Q H locs C kR hW ls hl
  obtain ⟨⟨hx, hb, hml, hown, hts⟩, hK, hT⟩ := id C
  have hl : lv_has ls 2 [(0, .ref (E.ad 35))] := hl
  have X4_takeLeaf_L2_c : ∀ (res : (St) ⊕ (Int32 × St)) (n : Nat) (v1 : Int32) (S : St) (H : Heap) (locs : List Loc) (ls : Array Slot), Ww E S s H locs → lv_has ls 2 [(0, .ref (E.ad 35)), (1, .int v1)] → X4_takeLeaf_L2  n v1 S = some res → (∀ (T : St) (H : Heap) (locs : List Loc) (ls : Array Slot), some (.inl T) = some res → Ww E T s H locs → lv_has ls 2 [] → W p l e rm_X4_takeLeaf s m args below meth c H locs 0 0 Q (F0 m 35 ls [])) → (∀ (r0 : Int32) (T : St) (H : Heap) (locs : List Loc) (pc : Nat) (ls : Array Slot), some (.inr (r0, T)) = some res → Ww E T s H locs → decode cX4_takeLeaf pc = .ok (.ireturn, 1) → W p l e rm_X4_takeLeaf s m args below meth c H locs 0 0 Q (F0 m pc ls [.int r0])) → W p l e rm_X4_takeLeaf s m args below meth c H locs 0 0 Q (F0 m 2 ls []) := by
    intro  res n
    induction n with
    | zero =>
      intro v1 S H locs ls hW hl hf
      cases hf
    | succ n ih =>
      intro v1 S H locs ls hW hl hf kE kR
      unfold X4_takeLeaf_L2 at hf
      refine lv_iload_n hx hb dX4_takeLeaf_2 rfl (lv_at hl 1 rfl) ?_
      refine lv_aload_n hx hb dX4_takeLeaf_3 rfl (lv_at hl 0 rfl) ?_
      refine g_get (ci := 4) (k := 0) (val := .int (rI S 35 0)) C g_us hW rfl rfl rfl (in_sid _ rfl) (by decide) f_RX4_34 rfl dX4_takeLeaf_4 ?_
      refine lv_icmp_ge (tgt := 35) hx hb dX4_takeLeaf_7 (by decide) (fun c1 => ?_) (fun c1 => ?_)
      · replace hf := ift_ hf c1
        exact kE _ _ _ _ hf hW (lv_sub hl [] rfl)
      · replace hf := iff_ hf c1
        refine lv_aload_n hx hb dX4_takeLeaf_10 rfl (lv_at hl 0 rfl) ?_
        refine g_get (ci := 4) (k := 3) (val := .ref (E.ad 38)) C g_us hW rfl rfl rfl (in_sid _ rfl) (by decide) f_RX4_18 rfl dX4_takeLeaf_11 ?_
        refine lv_iload_n hx hb dX4_takeLeaf_14 rfl (lv_at hl 1 rfl) ?_
        replace hf := bd_so hf
        obtain ⟨x2, h3, hf⟩ := hf
        refine g_iald C hW h3 dX4_takeLeaf_15 ?_
        refine lv_iconst (v := 1) hx hb dX4_takeLeaf_16 (by decide) ?_
        refine lv_icmp_ne (tgt := 29) hx hb dX4_takeLeaf_17 (by decide) (fun c4 => ?_) (fun c4 => ?_)
        · replace hf := iff_ hf c4
          refine lv_iinc (v := (v1 + 1)) (lv' := [(1, .int (v1 + 1)), (0, .ref (E.ad 35))]) hx hb dX4_takeLeaf_29 hl (k := 1) rfl rfl (by decide) rfl (fun ls hl => ?_)
          refine lv_goto (tgt := 2) hx hb dX4_takeLeaf_32 (by decide) ?_
          exact ih _ _ _ _ _ hW (lv_sub hl [1, 0] rfl) hf kE kR
        · replace hf := ift_ hf c4
          refine lv_aload_n hx hb dX4_takeLeaf_20 rfl (lv_at hl 0 rfl) ?_
          refine g_get (ci := 4) (k := 3) (val := .ref (E.ad 38)) C g_us hW rfl rfl rfl (in_sid _ rfl) (by decide) f_RX4_18 rfl dX4_takeLeaf_21 ?_
          refine lv_iload_n hx hb dX4_takeLeaf_24 rfl (lv_at hl 1 rfl) ?_
          refine lv_iconst (v := 0) hx hb dX4_takeLeaf_25 (by decide) ?_
          replace hf := bd_so hf
          obtain ⟨S5, h6, hf⟩ := hf
          refine g_iast C hW h6 dX4_takeLeaf_26 (fun H locs hW => ?_)
          refine lv_iload_n hx hb dX4_takeLeaf_27 rfl (lv_at hl 1 rfl) ?_
          exact kR _ _ _ _ _ _ hf hW dX4_takeLeaf_28
  unfold X4_takeLeaf at hf
  refine lv_iconst (v := 0) hx hb dX4_takeLeaf_0 (by decide) ?_
  refine lv_istore_n (lv' := [(1, .int 0), (0, .ref (E.ad 35))]) hx hb dX4_takeLeaf_1 rfl hl (by decide) rfl (fun ls hl => ?_)
  replace hf := bd_so hf
  obtain ⟨t, h8, hf⟩ := hf
  rcases t with S7 | ⟨x10, S11⟩
  · dsimp only at hf
    have J9 : ∀ (H : Heap) (locs : List Loc) (ls : Array Slot), Ww E S7 s H locs → lv_has ls 2 [] → W p l e rm_X4_takeLeaf s m args below meth c H locs 0 0 Q (F0 m 35 ls []) := by
      intro H locs ls hW hl
      refine lv_iconst (v := 0) hx hb dX4_takeLeaf_35 (by decide) ?_
      obtain ⟨rfl, rfl⟩ := so2 hf
      exact kR _ _ _ _ hW dX4_takeLeaf_36
    exact X4_takeLeaf_L2_c _ FU _ _ _ _ _ hW (lv_sub hl [1, 0] rfl) h8 (fun _ H locs ls e hW hl => by cases e; exact J9 H locs ls hW hl) (fun _ _ H locs pc ls e hW dd => by cases e)
  · dsimp only at hf
    refine X4_takeLeaf_L2_c _ FU _ _ _ _ _ hW (lv_sub hl [1, 0] rfl) h8 (fun _ H locs ls e hW hl => by cases e) (fun _ _ H locs pc ls e hW dd => ?_)
    cases e
    obtain ⟨rfl, rfl⟩ := so2 hf
    exact kR _ _ _ _ hW dd

abbrev rm_X4_blinksOf : Room := { frames := 2, cells := 0, slots := 0, locals := 82 }
set_option maxHeartbeats 4000000 in
set_option maxRecDepth 100000 in
theorem c_X4_blinksOf (l : Launch) (E : En) (S : St) (a2 : Int32) (a3 : Int32) (r : Int32) (hf : X4_blinksOf S a2 a3 = some r) : Mi l E yX4_blinksOf cX4_blinksOf 4 (some .int) rm_X4_blinksOf [.ref (E.ad 35), .ref (E.ad 2), .int a2, .int a3] S r S := by
  refine g_startI (cc := cX4_blinksOf) (n := 4) (by decide) (Nat.le_of_ble_eq_true rfl) ?_
  intro p e s m args below meth c Q H locs C kR hW ls hl
  obtain ⟨⟨hx, hb, hml, hown, hts⟩, hK, hT⟩ := id C
  have hl : lv_has ls 4 [(0, .ref (E.ad 35)), (1, .ref (E.ad 2)), (2, .int a2), (3, .int a3)] := hl
  unfold X4_blinksOf at hf
  refine lv_aload_n hx hb dX4_blinksOf_0 rfl (lv_at hl 1 rfl) ?_
  refine lv_aload_n hx hb dX4_blinksOf_1 rfl (lv_at hl 0 rfl) ?_
  refine g_get (ci := 4) (k := 1) (val := .ref (E.ad 36)) C g_us hW rfl rfl rfl (in_sid _ rfl) (by decide) f_RX4_9 rfl dX4_blinksOf_2 ?_
  refine lv_iload_n hx hb dX4_blinksOf_5 rfl (lv_at hl 2 rfl) ?_
  replace hf := bd_so hf
  obtain ⟨x1, h2, hf⟩ := hf
  refine g_iald C hW h2 dX4_blinksOf_6 ?_
  refine lv_aload_n hx hb dX4_blinksOf_7 rfl (lv_at hl 0 rfl) ?_
  refine g_get (ci := 4) (k := 1) (val := .ref (E.ad 36)) C g_us hW rfl rfl rfl (in_sid _ rfl) (by decide) f_RX4_9 rfl dX4_blinksOf_8 ?_
  refine lv_iload_n hx hb dX4_blinksOf_11 rfl (lv_at hl 3 rfl) ?_
  replace hf := bd_so hf
  obtain ⟨x3, h4, hf⟩ := hf
  refine g_iald C hW h4 dX4_blinksOf_12 ?_
  replace hf := bd_so hf
  obtain ⟨x6, h5, hf⟩ := hf
  refine g_callVi (ci := 6) (As := [.int x1, .int x3]) (rest := []) C g_us hW hl.1 (c_X6_between l E S x1 x3 _ h5) rfl rfl rfl (in_sid _ rfl) k_RX4_78 rfl ⟨rfl, rfl⟩ ⟨Nat.le_of_ble_eq_true rfl, Nat.le_of_ble_eq_true rfl⟩ ⟨Nat.zero_le _, Nat.zero_le _⟩ _ rfl (Nat.le_of_ble_eq_true rfl) dX4_blinksOf_13 (fun H locs hW => ?_)
  obtain rfl := so1 hf
  exact kR _ _ _ _ hW dX4_blinksOf_16

abbrev rm_X4_decode : Room := { frames := 3, cells := 0, slots := 0, locals := 105 }
set_option maxHeartbeats 4000000 in
set_option maxRecDepth 100000 in
theorem c_X4_decode (l : Launch) (E : En) (S : St) (a2 : Int32) (r : Int32) (S1 : St) (hf : X4_decode S a2 = some (r, S1)) : Mi l E yX4_decode cX4_decode 5 (some .boolean) rm_X4_decode [.ref (E.ad 35), .ref (E.ad 2), .int a2] S r S1 := by
  refine g_startZ (cc := cX4_decode) (n := 5) (by decide) (Nat.le_of_ble_eq_true rfl) ?_
  intro p e s m args below meth c Q H locs C kR hW ls hl
  obtain ⟨⟨hx, hb, hml, hown, hts⟩, hK, hT⟩ := id C
  have hl : lv_has ls 5 [(0, .ref (E.ad 35)), (1, .ref (E.ad 2)), (2, .int a2)] := hl
  have X4_decode_L13_c : ∀ (res : St) (n : Nat) (v3 : Int32) (v4 : Int32) (S : St) (H : Heap) (locs : List Loc) (ls : Array Slot), Ww E S s H locs → lv_has ls 5 [(0, .ref (E.ad 35)), (1, .ref (E.ad 2)), (3, .int v3), (4, .int v4)] → X4_decode_L13  n v3 v4 S = some res → (∀ (T : St) (H : Heap) (locs : List Loc) (ls : Array Slot), some T = some res → Ww E T s H locs → lv_has ls 5 [(0, .ref (E.ad 35)), (1, .ref (E.ad 2))] → W p l e rm_X4_decode s m args below meth c H locs 0 0 Q (F0 m 66 ls [])) → W p l e rm_X4_decode s m args below meth c H locs 0 0 Q (F0 m 13 ls []) := by
    intro  res n
    induction n with
    | zero =>
      intro v3 v4 S H locs ls hW hl hf
      cases hf
    | succ n ih =>
      intro v3 v4 S H locs ls hW hl hf kE
      unfold X4_decode_L13 at hf
      refine lv_iload hx hb dX4_decode_13 (lv_at hl 3 rfl) ?_
      refine lv_aload_n hx hb dX4_decode_15 rfl (lv_at hl 0 rfl) ?_
      refine g_get (ci := 4) (k := 0) (val := .int (rI S 35 0)) C g_us hW rfl rfl rfl (in_sid _ rfl) (by decide) f_RX4_34 rfl dX4_decode_16 ?_
      refine lv_iconst (v := 2) hx hb dX4_decode_19 (by decide) ?_
      refine lv_isub hx hb dX4_decode_20 ?_
      refine lv_icmp_ge (tgt := 66) hx hb dX4_decode_21 (by decide) (fun c3 => ?_) (fun c3 => ?_)
      · replace hf := ift_ hf c3
        exact kE _ _ _ _ hf hW (lv_sub hl [0, 1] rfl)
      · replace hf := iff_ hf c3
        refine lv_aload_n hx hb dX4_decode_24 rfl (lv_at hl 0 rfl) ?_
        refine g_get (ci := 4) (k := 2) (val := .ref (E.ad 37)) C g_us hW rfl rfl rfl (in_sid _ rfl) (by decide) f_RX4_15 rfl dX4_decode_25 ?_
        refine lv_iload hx hb dX4_decode_28 (lv_at hl 3 rfl) ?_
        refine lv_iload_n hx hb dX4_decode_30 rfl (lv_at hl 2 rfl) ?_
        refine lv_aload_n hx hb dX4_decode_31 rfl (lv_at hl 0 rfl) ?_
        refine g_get (ci := 4) (k := 0) (val := .int (rI S 35 0)) C g_us hW rfl rfl rfl (in_sid _ rfl) (by decide) f_RX4_34 rfl dX4_decode_32 ?_
        replace hf := bd_so hf
        obtain ⟨x4, h5, hf⟩ := hf
        refine g_irem C h5 dX4_decode_35 ?_
        replace hf := bd_so hf
        obtain ⟨S6, h7, hf⟩ := hf
        refine g_iast C hW h7 dX4_decode_36 (fun H locs hW => ?_)
        refine lv_iload_n hx hb dX4_decode_37 rfl (lv_at hl 2 rfl) ?_
        refine lv_aload_n hx hb dX4_decode_38 rfl (lv_at hl 0 rfl) ?_
        refine g_get (ci := 4) (k := 0) (val := .int (rI S6 35 0)) C g_us hW rfl rfl rfl (in_sid _ rfl) (by decide) f_RX4_34 rfl dX4_decode_39 ?_
        replace hf := bd_so hf
        obtain ⟨x8, h9, hf⟩ := hf
        refine g_idiv C h9 dX4_decode_42 ?_
        refine lv_istore_n (lv' := [(3, .int x8), (0, .ref (E.ad 35)), (1, .ref (E.ad 2)), (4, .int v4)]) hx hb dX4_decode_43 rfl hl (by decide) rfl (fun ls hl => ?_)
        refine lv_aload_n hx hb dX4_decode_44 rfl (lv_at hl 1 rfl) ?_
        refine g_get (ci := 4) (k := 3) (val := .ref (E.ad 38)) C g_us hW rfl rfl rfl (in_sid _ rfl) (by decide) f_RX4_18 rfl dX4_decode_45 ?_
        refine lv_aload_n hx hb dX4_decode_48 rfl (lv_at hl 1 rfl) ?_
        refine g_get (ci := 4) (k := 2) (val := .ref (E.ad 37)) C g_us hW rfl rfl rfl (in_sid _ rfl) (by decide) f_RX4_15 rfl dX4_decode_49 ?_
        refine lv_iload hx hb dX4_decode_52 (lv_at hl 3 rfl) ?_
        replace hf := bd_so hf
        obtain ⟨x10, h11, hf⟩ := hf
        refine g_iald C hW h11 dX4_decode_54 ?_
        refine lv_dup2_11 hx hb dX4_decode_55 rfl rfl ?_
        replace hf := bd_so hf
        obtain ⟨x12, h13, hf⟩ := hf
        refine g_iald C hW h13 dX4_decode_56 ?_
        refine lv_iconst (v := 1) hx hb dX4_decode_57 (by decide) ?_
        refine lv_iadd hx hb dX4_decode_58 ?_
        replace hf := bd_so hf
        obtain ⟨S14, h15, hf⟩ := hf
        refine g_iast C hW h15 dX4_decode_59 (fun H locs hW => ?_)
        refine lv_iinc (v := (v4 + 1)) (lv' := [(4, .int (v4 + 1)), (3, .int x8), (0, .ref (E.ad 35)), (1, .ref (E.ad 2))]) hx hb dX4_decode_60 hl (k := 3) rfl rfl (by decide) rfl (fun ls hl => ?_)
        refine lv_goto (tgt := 13) hx hb dX4_decode_63 (by decide) ?_
        exact ih _ _ _ _ _ _ hW (lv_sub hl [2, 3, 1, 0] rfl) hf kE
  have X4_decode_L69_c : ∀ (S : St) (res : (Unit) ⊕ (Int32 × St)) (n : Nat) (v4 : Int32) (H : Heap) (locs : List Loc) (ls : Array Slot), Ww E S s H locs → lv_has ls 5 [(0, .ref (E.ad 35)), (1, .ref (E.ad 2)), (4, .int v4)] → X4_decode_L69 S  n v4 = some res → (∀ (H : Heap) (locs : List Loc) (ls : Array Slot), some (.inl ()) = some res → Ww E S s H locs → lv_has ls 5 [(0, .ref (E.ad 35)), (1, .ref (E.ad 2))] → W p l e rm_X4_decode s m args below meth c H locs 0 0 Q (F0 m 100 ls [])) → (∀ (r0 : Int32) (T : St) (H : Heap) (locs : List Loc) (pc : Nat) (ls : Array Slot), some (.inr (r0, T)) = some res → Ww E T s H locs → (r0 = 0 ∨ r0 = 1) → decode cX4_decode pc = .ok (.ireturn, 1) → W p l e rm_X4_decode s m args below meth c H locs 0 0 Q (F0 m pc ls [.int r0])) → W p l e rm_X4_decode s m args below meth c H locs 0 0 Q (F0 m 69 ls []) := by
    intro S  res n
    induction n with
    | zero =>
      intro v4 H locs ls hW hl hf
      cases hf
    | succ n ih =>
      intro v4 H locs ls hW hl hf kE kR
      unfold X4_decode_L69 at hf
      refine lv_iload hx hb dX4_decode_69 (lv_at hl 2 rfl) ?_
      refine lv_aload_n hx hb dX4_decode_71 rfl (lv_at hl 0 rfl) ?_
      refine g_get (ci := 4) (k := 0) (val := .int (rI S 35 0)) C g_us hW rfl rfl rfl (in_sid _ rfl) (by decide) f_RX4_34 rfl dX4_decode_72 ?_
      refine lv_icmp_ge (tgt := 100) hx hb dX4_decode_75 (by decide) (fun c18 => ?_) (fun c18 => ?_)
      · replace hf := ift_ hf c18
        exact kE  _ _ _ hf hW (lv_sub hl [0, 1] rfl)
      · replace hf := iff_ hf c18
        refine lv_aload_n hx hb dX4_decode_78 rfl (lv_at hl 0 rfl) ?_
        refine g_get (ci := 4) (k := 3) (val := .ref (E.ad 38)) C g_us hW rfl rfl rfl (in_sid _ rfl) (by decide) f_RX4_18 rfl dX4_decode_79 ?_
        refine lv_iload hx hb dX4_decode_82 (lv_at hl 2 rfl) ?_
        replace hf := bd_so hf
        obtain ⟨x19, h20, hf⟩ := hf
        refine g_iald C hW h20 dX4_decode_84 ?_
        refine lv_aload_n hx hb dX4_decode_85 rfl (lv_at hl 1 rfl) ?_
        refine g_get (ci := 6) (k := 2) (val := .int (rI S 2 2)) C g_us hW rfl rfl rfl (in_sid _ rfl) (by decide) f_RX4_67 rfl dX4_decode_86 ?_
        refine lv_icmp_le (tgt := 94) hx hb dX4_decode_89 (by decide) (fun c21 => ?_) (fun c21 => ?_)
        · replace hf := ift_ hf c21
          refine lv_iinc (v := (v4 + 1)) (lv' := [(4, .int (v4 + 1)), (0, .ref (E.ad 35)), (1, .ref (E.ad 2))]) hx hb dX4_decode_94 hl (k := 2) rfl rfl (by decide) rfl (fun ls hl => ?_)
          refine lv_goto (tgt := 69) hx hb dX4_decode_97 (by decide) ?_
          exact ih _ _ _ _ hW (lv_sub hl [1, 2, 0] rfl) hf kE kR
        · replace hf := iff_ hf c21
          refine lv_iconst (v := 0) hx hb dX4_decode_92 (by decide) ?_
          exact kR _ _ _ _ _ _ hf hW (Or.inl rfl) dX4_decode_93
  have X4_decode_L103_c : ∀ (res : (St) ⊕ (Int32 × St)) (n : Nat) (v4 : Int32) (S : St) (H : Heap) (locs : List Loc) (ls : Array Slot), Ww E S s H locs → lv_has ls 5 [(0, .ref (E.ad 35)), (1, .ref (E.ad 2)), (4, .int v4)] → X4_decode_L103  n v4 S = some res → (∀ (T : St) (H : Heap) (locs : List Loc) (ls : Array Slot), some (.inl T) = some res → Ww E T s H locs → lv_has ls 5 [] → W p l e rm_X4_decode s m args below meth c H locs 0 0 Q (F0 m 225 ls [])) → (∀ (r0 : Int32) (T : St) (H : Heap) (locs : List Loc) (pc : Nat) (ls : Array Slot), some (.inr (r0, T)) = some res → Ww E T s H locs → (r0 = 0 ∨ r0 = 1) → decode cX4_decode pc = .ok (.ireturn, 1) → W p l e rm_X4_decode s m args below meth c H locs 0 0 Q (F0 m pc ls [.int r0])) → W p l e rm_X4_decode s m args below meth c H locs 0 0 Q (F0 m 103 ls []) := by
    intro  res n
    induction n with
    | zero =>
      intro v4 S H locs ls hW hl hf
      cases hf
    | succ n ih =>
      intro v4 S H locs ls hW hl hf kE kR
      unfold X4_decode_L103 at hf
      refine lv_iload hx hb dX4_decode_103 (lv_at hl 2 rfl) ?_
      refine lv_aload_n hx hb dX4_decode_105 rfl (lv_at hl 0 rfl) ?_
      refine g_get (ci := 4) (k := 0) (val := .int (rI S 35 0)) C g_us hW rfl rfl rfl (in_sid _ rfl) (by decide) f_RX4_34 rfl dX4_decode_106 ?_
      refine lv_iconst (v := 1) hx hb dX4_decode_109 (by decide) ?_
      refine lv_isub hx hb dX4_decode_110 ?_
      refine lv_icmp_ge (tgt := 225) hx hb dX4_decode_111 (by decide) (fun c23 => ?_) (fun c23 => ?_)
      · replace hf := ift_ hf c23
        exact kE _ _ _ _ hf hW (lv_sub hl [] rfl)
      · replace hf := iff_ hf c23
        refine lv_aload_n hx hb dX4_decode_114 rfl (lv_at hl 0 rfl) ?_
        refine g_get (ci := 4) (k := 4) (val := .ref (E.ad 39)) C g_us hW rfl rfl rfl (in_sid _ rfl) (by decide) f_RX4_21 rfl dX4_decode_115 ?_
        refine lv_iload hx hb dX4_decode_118 (lv_at hl 2 rfl) ?_
        refine lv_aload_n hx hb dX4_decode_120 rfl (lv_at hl 0 rfl) ?_
        replace hf := bd_so hf
        obtain ⟨⟨x25, S26⟩, h24, hf⟩ := hf
        dsimp only at hf
        refine g_callVi (ci := 4) (As := []) (rest := [.int v4, .ref (E.ad 39)]) C g_us hW hl.1 (c_X4_takeLeaf l E S  _ _ h24) rfl rfl rfl (in_sid _ rfl) k_RX4_70 rfl ⟨rfl, rfl⟩ ⟨Nat.le_of_ble_eq_true rfl, Nat.le_of_ble_eq_true rfl⟩ ⟨Nat.zero_le _, Nat.zero_le _⟩ _ rfl (Nat.le_of_ble_eq_true rfl) dX4_decode_121 (fun H locs hW => ?_)
        replace hf := bd_so hf
        obtain ⟨S27, h28, hf⟩ := hf
        refine g_iast C hW h28 dX4_decode_124 (fun H locs hW => ?_)
        refine lv_aload_n hx hb dX4_decode_125 rfl (lv_at hl 0 rfl) ?_
        refine g_get (ci := 4) (k := 5) (val := .ref (E.ad 40)) C g_us hW rfl rfl rfl (in_sid _ rfl) (by decide) f_RX4_24 rfl dX4_decode_126 ?_
        refine lv_iload hx hb dX4_decode_129 (lv_at hl 2 rfl) ?_
        refine lv_iload hx hb dX4_decode_131 (lv_at hl 2 rfl) ?_
        refine lv_aload_n hx hb dX4_decode_133 rfl (lv_at hl 0 rfl) ?_
        refine g_get (ci := 4) (k := 0) (val := .int (rI S27 35 0)) C g_us hW rfl rfl rfl (in_sid _ rfl) (by decide) f_RX4_34 rfl dX4_decode_134 ?_
        refine lv_iconst (v := 2) hx hb dX4_decode_137 (by decide) ?_
        refine lv_isub hx hb dX4_decode_138 ?_
        replace hf := bd_so hf
        obtain ⟨⟨x30, S31⟩, h32, hf⟩ := hf
        dsimp only at hf
        have J33 : ∀ (H : Heap) (locs : List Loc) (ls : Array Slot), Ww E S31 s H locs → lv_has ls 5 [(0, .ref (E.ad 35)), (1, .ref (E.ad 2)), (4, .int v4)] → W p l e rm_X4_decode s m args below meth c H locs 0 0 Q (F0 m 156 ls [.int x30, .int v4, .ref (E.ad 40)]) := by
          intro H locs ls hW hl
          replace hf := bd_so hf
          obtain ⟨S34, h35, hf⟩ := hf
          refine g_iast C hW h35 dX4_decode_156 (fun H locs hW => ?_)
          refine lv_aload_n hx hb dX4_decode_157 rfl (lv_at hl 0 rfl) ?_
          refine g_get (ci := 4) (k := 3) (val := .ref (E.ad 38)) C g_us hW rfl rfl rfl (in_sid _ rfl) (by decide) f_RX4_18 rfl dX4_decode_158 ?_
          refine lv_aload_n hx hb dX4_decode_161 rfl (lv_at hl 0 rfl) ?_
          refine g_get (ci := 4) (k := 5) (val := .ref (E.ad 40)) C g_us hW rfl rfl rfl (in_sid _ rfl) (by decide) f_RX4_24 rfl dX4_decode_162 ?_
          refine lv_iload hx hb dX4_decode_165 (lv_at hl 2 rfl) ?_
          replace hf := bd_so hf
          obtain ⟨x36, h37, hf⟩ := hf
          refine g_iald C hW h37 dX4_decode_167 ?_
          refine lv_dup2_11 hx hb dX4_decode_168 rfl rfl ?_
          replace hf := bd_so hf
          obtain ⟨x38, h39, hf⟩ := hf
          refine g_iald C hW h39 dX4_decode_169 ?_
          refine lv_iconst (v := 1) hx hb dX4_decode_170 (by decide) ?_
          refine lv_isub hx hb dX4_decode_171 ?_
          replace hf := bd_so hf
          obtain ⟨S40, h41, hf⟩ := hf
          refine g_iast C hW h41 dX4_decode_172 (fun H locs hW => ?_)
          refine lv_aload_n hx hb dX4_decode_173 rfl (lv_at hl 0 rfl) ?_
          refine lv_aload_n hx hb dX4_decode_174 rfl (lv_at hl 1 rfl) ?_
          refine lv_aload_n hx hb dX4_decode_175 rfl (lv_at hl 0 rfl) ?_
          refine g_get (ci := 4) (k := 4) (val := .ref (E.ad 39)) C g_us hW rfl rfl rfl (in_sid _ rfl) (by decide) f_RX4_21 rfl dX4_decode_176 ?_
          refine lv_iload hx hb dX4_decode_179 (lv_at hl 2 rfl) ?_
          replace hf := bd_so hf
          obtain ⟨x42, h43, hf⟩ := hf
          refine g_iald C hW h43 dX4_decode_181 ?_
          refine lv_aload_n hx hb dX4_decode_182 rfl (lv_at hl 0 rfl) ?_
          refine g_get (ci := 4) (k := 5) (val := .ref (E.ad 40)) C g_us hW rfl rfl rfl (in_sid _ rfl) (by decide) f_RX4_24 rfl dX4_decode_183 ?_
          refine lv_iload hx hb dX4_decode_186 (lv_at hl 2 rfl) ?_
          replace hf := bd_so hf
          obtain ⟨x44, h45, hf⟩ := hf
          refine g_iald C hW h45 dX4_decode_188 ?_
          replace hf := bd_so hf
          obtain ⟨x47, h46, hf⟩ := hf
          refine g_callVi (ci := 4) (As := [.ref (E.ad 2), .int x42, .int x44]) (rest := []) C g_us hW hl.1 (c_X4_blinksOf l E S40 x42 x44 _ h46) rfl rfl rfl (in_sid _ rfl) k_RX4_74 rfl ⟨rfl, rfl⟩ ⟨Nat.le_of_ble_eq_true rfl, Nat.le_of_ble_eq_true rfl⟩ ⟨Nat.zero_le _, Nat.zero_le _⟩ _ rfl (Nat.le_of_ble_eq_true rfl) dX4_decode_189 (fun H locs hW => ?_)
          refine lv_if_eq (tgt := 217) hx hb dX4_decode_192 (by decide) (fun c48 => ?_) (fun c48 => ?_)
          · replace hf := ift_ hf c48
            refine lv_iconst (v := 0) hx hb dX4_decode_217 (by decide) ?_
            exact kR _ _ _ _ _ _ hf hW (Or.inl rfl) dX4_decode_218
          · replace hf := iff_ hf c48
            refine lv_aload_n hx hb dX4_decode_195 rfl (lv_at hl 0 rfl) ?_
            refine lv_aload_n hx hb dX4_decode_196 rfl (lv_at hl 1 rfl) ?_
            refine lv_aload_n hx hb dX4_decode_197 rfl (lv_at hl 0 rfl) ?_
            refine g_get (ci := 4) (k := 5) (val := .ref (E.ad 40)) C g_us hW rfl rfl rfl (in_sid _ rfl) (by decide) f_RX4_24 rfl dX4_decode_198 ?_
            refine lv_iload hx hb dX4_decode_201 (lv_at hl 2 rfl) ?_
            replace hf := bd_so hf
            obtain ⟨x49, h50, hf⟩ := hf
            refine g_iald C hW h50 dX4_decode_203 ?_
            refine lv_aload_n hx hb dX4_decode_204 rfl (lv_at hl 0 rfl) ?_
            refine g_get (ci := 4) (k := 4) (val := .ref (E.ad 39)) C g_us hW rfl rfl rfl (in_sid _ rfl) (by decide) f_RX4_21 rfl dX4_decode_205 ?_
            refine lv_iload hx hb dX4_decode_208 (lv_at hl 2 rfl) ?_
            replace hf := bd_so hf
            obtain ⟨x51, h52, hf⟩ := hf
            refine g_iald C hW h52 dX4_decode_210 ?_
            replace hf := bd_so hf
            obtain ⟨x54, h53, hf⟩ := hf
            refine g_callVi (ci := 4) (As := [.ref (E.ad 2), .int x49, .int x51]) (rest := []) C g_us hW hl.1 (c_X4_blinksOf l E S40 x49 x51 _ h53) rfl rfl rfl (in_sid _ rfl) k_RX4_74 rfl ⟨rfl, rfl⟩ ⟨Nat.le_of_ble_eq_true rfl, Nat.le_of_ble_eq_true rfl⟩ ⟨Nat.zero_le _, Nat.zero_le _⟩ _ rfl (Nat.le_of_ble_eq_true rfl) dX4_decode_211 (fun H locs hW => ?_)
            refine lv_if_ne (tgt := 219) hx hb dX4_decode_214 (by decide) (fun c55 => ?_) (fun c55 => ?_)
            · replace hf := iff_ hf c55
              refine lv_iinc (v := (v4 + 1)) (lv' := [(4, .int (v4 + 1)), (0, .ref (E.ad 35)), (1, .ref (E.ad 2))]) hx hb dX4_decode_219 hl (k := 2) rfl rfl (by decide) rfl (fun ls hl => ?_)
              refine lv_goto (tgt := 103) hx hb dX4_decode_222 (by decide) ?_
              exact ih _ _ _ _ _ hW (lv_sub hl [1, 2, 0] rfl) hf kE kR
            · replace hf := ift_ hf c55
              refine lv_iconst (v := 0) hx hb dX4_decode_217 (by decide) ?_
              exact kR _ _ _ _ _ _ hf hW (Or.inl rfl) dX4_decode_218
        clear hf
        have hf := h32
        clear h32
        refine lv_icmp_ge (tgt := 152) hx hb dX4_decode_139 (by decide) (fun c29 => ?_) (fun c29 => ?_)
        · replace hf := ift_ hf c29
          refine lv_aload_n hx hb dX4_decode_152 rfl (lv_at hl 0 rfl) ?_
          replace hf := bd_so hf
          obtain ⟨⟨x57, S58⟩, h56, hf⟩ := hf
          dsimp only at hf
          refine g_callVi (ci := 4) (As := []) (rest := [.int v4, .ref (E.ad 40)]) C g_us hW hl.1 (c_X4_takeLeaf l E S27  _ _ h56) rfl rfl rfl (in_sid _ rfl) k_RX4_70 rfl ⟨rfl, rfl⟩ ⟨Nat.le_of_ble_eq_true rfl, Nat.le_of_ble_eq_true rfl⟩ ⟨Nat.zero_le _, Nat.zero_le _⟩ _ rfl (Nat.le_of_ble_eq_true rfl) dX4_decode_153 (fun H locs hW => ?_)
          obtain ⟨rfl, rfl⟩ := so2 hf
          exact J33 _ _ _ hW (lv_sub hl [0, 1, 2] rfl)
        · replace hf := iff_ hf c29
          refine lv_aload_n hx hb dX4_decode_142 rfl (lv_at hl 0 rfl) ?_
          refine g_get (ci := 4) (k := 2) (val := .ref (E.ad 37)) C g_us hW rfl rfl rfl (in_sid _ rfl) (by decide) f_RX4_15 rfl dX4_decode_143 ?_
          refine lv_iload hx hb dX4_decode_146 (lv_at hl 2 rfl) ?_
          replace hf := bd_so hf
          obtain ⟨x59, h60, hf⟩ := hf
          refine g_iald C hW h60 dX4_decode_148 ?_
          refine lv_goto (tgt := 156) hx hb dX4_decode_149 (by decide) ?_
          obtain ⟨rfl, rfl⟩ := so2 hf
          exact J33 _ _ _ hW (lv_sub hl [0, 1, 2] rfl)
  unfold X4_decode at hf
  refine lv_aload_n hx hb dX4_decode_0 rfl (lv_at hl 0 rfl) ?_
  refine g_get (ci := 4) (k := 3) (val := .ref (E.ad 38)) C g_us hW rfl rfl rfl (in_sid _ rfl) (by decide) f_RX4_18 rfl dX4_decode_1 ?_
  refine lv_iconst (v := 1) hx hb dX4_decode_4 (by decide) ?_
  replace hf := bd_so hf
  obtain ⟨S2, h1, hf⟩ := hf
  refine g_callSv (As := [.ref (E.ad 38), .int 1]) (rest := []) C g_us hW hl.1 (c_J7_fill_53178 l E S 38 1 _ h1) k_RX4_61 rfl ⟨rfl, rfl⟩ ⟨Nat.le_of_ble_eq_true rfl, Nat.le_of_ble_eq_true rfl⟩ ⟨Nat.zero_le _, Nat.zero_le _⟩ _ rfl (Nat.le_of_ble_eq_true rfl) dX4_decode_5 (fun H locs hW => ?_)
  refine lv_iload_n hx hb dX4_decode_8 rfl (lv_at hl 2 rfl) ?_
  refine lv_istore_n (lv' := [(3, .int a2), (0, .ref (E.ad 35)), (1, .ref (E.ad 2)), (2, .int a2)]) hx hb dX4_decode_9 rfl hl (by decide) rfl (fun ls hl => ?_)
  refine lv_iconst (v := 0) hx hb dX4_decode_10 (by decide) ?_
  refine lv_istore (lv' := [(4, .int 0), (3, .int a2), (0, .ref (E.ad 35)), (1, .ref (E.ad 2)), (2, .int a2)]) hx hb dX4_decode_11 hl (by decide) rfl (fun ls hl => ?_)
  replace hf := bd_so hf
  obtain ⟨S16, h17, hf⟩ := hf
  have J69 : ∀ (H : Heap) (locs : List Loc) (ls : Array Slot), Ww E S16 s H locs → lv_has ls 5 [(0, .ref (E.ad 35)), (1, .ref (E.ad 2))] → W p l e rm_X4_decode s m args below meth c H locs 0 0 Q (F0 m 66 ls []) := by
    intro H locs ls hW hl
    refine lv_iconst (v := 0) hx hb dX4_decode_66 (by decide) ?_
    refine lv_istore (lv' := [(4, .int 0), (0, .ref (E.ad 35)), (1, .ref (E.ad 2))]) hx hb dX4_decode_67 hl (by decide) rfl (fun ls hl => ?_)
    replace hf := bd_so hf
    obtain ⟨t, h22, hf⟩ := hf
    rcases t with u | ⟨x67, S68⟩
    · dsimp only at hf
      have J66 : ∀ (H : Heap) (locs : List Loc) (ls : Array Slot), Ww E S16 s H locs → lv_has ls 5 [(0, .ref (E.ad 35)), (1, .ref (E.ad 2))] → W p l e rm_X4_decode s m args below meth c H locs 0 0 Q (F0 m 100 ls []) := by
        intro H locs ls hW hl
        refine lv_iconst (v := 0) hx hb dX4_decode_100 (by decide) ?_
        refine lv_istore (lv' := [(4, .int 0), (0, .ref (E.ad 35)), (1, .ref (E.ad 2))]) hx hb dX4_decode_101 hl (by decide) rfl (fun ls hl => ?_)
        replace hf := bd_so hf
        obtain ⟨t, h62, hf⟩ := hf
        rcases t with S61 | ⟨x64, S65⟩
        · dsimp only at hf
          have J63 : ∀ (H : Heap) (locs : List Loc) (ls : Array Slot), Ww E S61 s H locs → lv_has ls 5 [] → W p l e rm_X4_decode s m args below meth c H locs 0 0 Q (F0 m 225 ls []) := by
            intro H locs ls hW hl
            refine lv_iconst (v := 1) hx hb dX4_decode_225 (by decide) ?_
            obtain ⟨rfl, rfl⟩ := so2 hf
            exact kR _ _ _ _ hW (Or.inr rfl) dX4_decode_226
          exact X4_decode_L103_c _ FU _ _ _ _ _ hW (lv_sub hl [1, 2, 0] rfl) h62 (fun _ H locs ls e hW hl => by cases e; exact J63 H locs ls hW hl) (fun _ _ H locs pc ls e hW hz dd => by cases e)
        · dsimp only at hf
          refine X4_decode_L103_c _ FU _ _ _ _ _ hW (lv_sub hl [1, 2, 0] rfl) h62 (fun _ H locs ls e hW hl => by cases e) (fun _ _ H locs pc ls e hW hz dd => ?_)
          cases e
          obtain ⟨rfl, rfl⟩ := so2 hf
          exact kR _ _ _ _ hW hz dd
      exact X4_decode_L69_c _ _ FU _ _ _ _ hW (lv_sub hl [1, 2, 0] rfl) h22 (fun H locs ls e hW hl => by cases e; exact J66 H locs ls hW hl) (fun _ _ H locs pc ls e hW hz dd => by cases e)
    · dsimp only at hf
      refine X4_decode_L69_c _ _ FU _ _ _ _ hW (lv_sub hl [1, 2, 0] rfl) h22 (fun H locs ls e hW hl => by cases e) (fun _ _ H locs pc ls e hW hz dd => ?_)
      cases e
      obtain ⟨rfl, rfl⟩ := so2 hf
      exact kR _ _ _ _ hW hz dd
  exact X4_decode_L13_c _ FU _ _ _ _ _ _ hW (lv_sub hl [2, 3, 1, 0] rfl) h17 (fun _ H locs ls e hW hl => by cases e; exact J69 H locs ls hW hl)

abbrev rm_X4_join : Room := { frames := 3, cells := 0, slots := 0, locals := 105 }
set_option maxHeartbeats 4000000 in
set_option maxRecDepth 100000 in
theorem c_X4_join (l : Launch) (E : En) (S : St) (a2 : Int32) (a3 : Int32) (a4 : Int32) (r : Int32) (S1 : St) (hf : X4_join S a2 a3 a4 = some (r, S1)) : Mi l E yX4_join cX4_join 10 (some .int) rm_X4_join [.ref (E.ad 35), .ref (E.ad 2), .int a2, .int a3, .int a4] S r S1 := by
  refine g_startI (cc := cX4_join) (n := 10) (by decide) (Nat.le_of_ble_eq_true rfl) ?_
  intro p e s m args below meth c Q H locs C kR hW ls hl
  obtain ⟨⟨hx, hb, hml, hown, hts⟩, hK, hT⟩ := id C
  have hl : lv_has ls 10 [(0, .ref (E.ad 35)), (1, .ref (E.ad 2)), (2, .int a2), (3, .int a3), (4, .int a4)] := hl
  have X4_join_L24_c : ∀ (v2 : Int32) (v3 : Int32) (v4 : Int32) (v5 : Int32) (v6 : Int32) (res : Int32 × St) (n : Nat) (v7 : Int32) (v8 : Int32) (S : St) (H : Heap) (locs : List Loc) (ls : Array Slot), Ww E S s H locs → lv_has ls 10 [(0, .ref (E.ad 35)), (2, .int v2), (3, .int v3), (4, .int v4), (5, .int v5), (6, .int v6), (7, .int v7), (8, .int v8)] → X4_join_L24 v2 v3 v4 v5 v6 n v7 v8 S = some res → (∀ (w7 : Int32) (T : St) (H : Heap) (locs : List Loc) (ls : Array Slot), some (w7, T) = some res → Ww E T s H locs → lv_has ls 10 [(7, .int w7)] → W p l e rm_X4_join s m args below meth c H locs 0 0 Q (F0 m 172 ls [])) → W p l e rm_X4_join s m args below meth c H locs 0 0 Q (F0 m 24 ls []) := by
    intro v2 v3 v4 v5 v6 res n
    induction n with
    | zero =>
      intro v7 v8 S H locs ls hW hl hf
      cases hf
    | succ n ih =>
      intro v7 v8 S H locs ls hW hl hf kE
      unfold X4_join_L24 at hf
      refine lv_iload hx hb dX4_join_24 (lv_at hl 7 rfl) ?_
      refine lv_aload_n hx hb dX4_join_26 rfl (lv_at hl 0 rfl) ?_
      refine g_get (ci := 4) (k := 0) (val := .int (rI S 35 0)) C g_us hW rfl rfl rfl (in_sid _ rfl) (by decide) f_RX4_34 rfl dX4_join_27 ?_
      refine lv_icmp_ge (tgt := 172) hx hb dX4_join_30 (by decide) (fun c5 => ?_) (fun c5 => ?_)
      · replace hf := ift_ hf c5
        exact kE _ _ _ _ _ hf hW (lv_sub hl [6] rfl)
      · replace hf := iff_ hf c5
        refine lv_iload hx hb dX4_join_33 (lv_at hl 3 rfl) ?_
        refine lv_iload hx hb dX4_join_35 (lv_at hl 7 rfl) ?_
        refine lv_ishr hx hb dX4_join_37 ?_
        refine lv_iconst (v := 1) hx hb dX4_join_38 (by decide) ?_
        refine lv_iand hx hb dX4_join_39 ?_
        replace hf := bd_so hf
        obtain ⟨⟨x7, S8⟩, h9, hf⟩ := hf
        dsimp only at hf
        have J10 : ∀ (H : Heap) (locs : List Loc) (ls : Array Slot), Ww E S8 s H locs → lv_has ls 10 [(0, .ref (E.ad 35)), (2, .int v2), (3, .int v3), (4, .int v4), (5, .int v5), (6, .int v6), (7, .int x7), (8, .int v8)] → W p l e rm_X4_join s m args below meth c H locs 0 0 Q (F0 m 166 ls []) := by
          intro H locs ls hW hl
          refine lv_iinc (v := (v8 + 1)) (lv' := [(8, .int (v8 + 1)), (0, .ref (E.ad 35)), (2, .int v2), (3, .int v3), (4, .int v4), (5, .int v5), (6, .int v6), (7, .int x7)]) hx hb dX4_join_166 hl (k := 7) rfl rfl (by decide) rfl (fun ls hl => ?_)
          refine lv_goto (tgt := 24) hx hb dX4_join_169 (by decide) ?_
          exact ih _ _ _ _ _ _ hW (lv_sub hl [1, 2, 3, 4, 5, 6, 7, 0] rfl) hf kE
        clear hf
        have hf := h9
        clear h9
        refine lv_if_eq (tgt := 166) hx hb dX4_join_40 (by decide) (fun c6 => ?_) (fun c6 => ?_)
        · replace hf := ift_ hf c6
          obtain ⟨rfl, rfl⟩ := so2 hf
          exact J10 _ _ _ hW (lv_sub hl [0, 1, 2, 3, 4, 5, 6, 7] rfl)
        · replace hf := iff_ hf c6
          refine lv_iload hx hb dX4_join_43 (lv_at hl 7 rfl) ?_
          refine lv_iload_n hx hb dX4_join_45 rfl (lv_at hl 2 rfl) ?_
          replace hf := bd_so hf
          obtain ⟨x12, h13, hf⟩ := hf
          have J14 : ∀ (H : Heap) (locs : List Loc) (ls : Array Slot), Ww E S s H locs → lv_has ls 10 [(0, .ref (E.ad 35)), (2, .int v2), (3, .int v3), (4, .int v4), (5, .int v5), (6, .int v6), (7, .int v7), (8, .int v8)] → W p l e rm_X4_join s m args below meth c H locs 0 0 Q (F0 m 54 ls [.int x12]) := by
            intro H locs ls hW hl
            refine lv_istore (lv' := [(9, .int x12), (0, .ref (E.ad 35)), (2, .int v2), (3, .int v3), (4, .int v4), (5, .int v5), (6, .int v6), (7, .int v7), (8, .int v8)]) hx hb dX4_join_54 hl (by decide) rfl (fun ls hl => ?_)
            refine lv_aload_n hx hb dX4_join_56 rfl (lv_at hl 1 rfl) ?_
            refine g_get (ci := 4) (k := 6) (val := .ref (E.ad 41)) C g_us hW rfl rfl rfl (in_sid _ rfl) (by decide) f_RX4_27 rfl dX4_join_57 ?_
            refine lv_iload_n hx hb dX4_join_60 rfl (lv_at hl 2 rfl) ?_
            refine lv_bipush (v := 6) hx hb dX4_join_61 (by decide) ?_
            refine lv_imul hx hb dX4_join_63 ?_
            refine lv_iload hx hb dX4_join_64 (lv_at hl 8 rfl) ?_
            refine lv_iadd hx hb dX4_join_66 ?_
            refine lv_iload hx hb dX4_join_67 (lv_at hl 5 rfl) ?_
            refine lv_iload hx hb dX4_join_69 (lv_at hl 0 rfl) ?_
            replace hf := bd_so hf
            obtain ⟨x16, h17, hf⟩ := hf
            have J18 : ∀ (H : Heap) (locs : List Loc) (ls : Array Slot), Ww E S s H locs → lv_has ls 10 [(0, .ref (E.ad 35)), (2, .int v2), (3, .int v3), (4, .int v4), (5, .int v5), (6, .int v6), (7, .int v7), (8, .int v8), (9, .int x12)] → W p l e rm_X4_join s m args below meth c H locs 0 0 Q (F0 m 90 ls [.int x16, .int v5, .int ((v2 * 6) + v8), .ref (E.ad 41)]) := by
              intro H locs ls hW hl
              refine lv_iadd hx hb dX4_join_90 ?_
              replace hf := bd_so hf
              obtain ⟨S19, h20, hf⟩ := hf
              refine g_iast C hW h20 dX4_join_91 (fun H locs hW => ?_)
              refine lv_aload_n hx hb dX4_join_92 rfl (lv_at hl 0 rfl) ?_
              refine g_get (ci := 4) (k := 6) (val := .ref (E.ad 41)) C g_us hW rfl rfl rfl (in_sid _ rfl) (by decide) f_RX4_27 rfl dX4_join_93 ?_
              refine lv_iload hx hb dX4_join_96 (lv_at hl 7 rfl) ?_
              refine lv_bipush (v := 6) hx hb dX4_join_98 (by decide) ?_
              refine lv_imul hx hb dX4_join_100 ?_
              refine lv_iload_n hx hb dX4_join_101 rfl (lv_at hl 1 rfl) ?_
              refine lv_iadd hx hb dX4_join_102 ?_
              refine lv_iload hx hb dX4_join_103 (lv_at hl 5 rfl) ?_
              refine lv_iload hx hb dX4_join_105 (lv_at hl 8 rfl) ?_
              replace hf := bd_so hf
              obtain ⟨x22, h23, hf⟩ := hf
              have J24 : ∀ (H : Heap) (locs : List Loc) (ls : Array Slot), Ww E S19 s H locs → lv_has ls 10 [(0, .ref (E.ad 35)), (2, .int v2), (3, .int v3), (4, .int v4), (5, .int v5), (6, .int v6), (7, .int v7), (8, .int v8)] → W p l e rm_X4_join s m args below meth c H locs 0 0 Q (F0 m 126 ls [.int x22, .int v6, .int ((v8 * 6) + v2), .ref (E.ad 41)]) := by
                intro H locs ls hW hl
                refine lv_iadd hx hb dX4_join_126 ?_
                replace hf := bd_so hf
                obtain ⟨S25, h26, hf⟩ := hf
                refine g_iast C hW h26 dX4_join_127 (fun H locs hW => ?_)
                refine lv_iload hx hb dX4_join_128 (lv_at hl 6 rfl) ?_
                refine lv_aload_n hx hb dX4_join_130 rfl (lv_at hl 0 rfl) ?_
                refine g_get (ci := 4) (k := 6) (val := .ref (E.ad 41)) C g_us hW rfl rfl rfl (in_sid _ rfl) (by decide) f_RX4_27 rfl dX4_join_131 ?_
                refine lv_iload_n hx hb dX4_join_134 rfl (lv_at hl 1 rfl) ?_
                refine lv_bipush (v := 6) hx hb dX4_join_135 (by decide) ?_
                refine lv_imul hx hb dX4_join_137 ?_
                refine lv_iload hx hb dX4_join_138 (lv_at hl 7 rfl) ?_
                refine lv_iadd hx hb dX4_join_140 ?_
                replace hf := bd_so hf
                obtain ⟨x27, h28, hf⟩ := hf
                refine g_iald C hW h28 dX4_join_141 ?_
                refine g_max C g_us hl.1 k_RX4_85 (Nat.le_of_ble_eq_true rfl) (Nat.le_of_ble_eq_true rfl) ⟨Nat.zero_le _, Nat.zero_le _⟩ dX4_join_142 ?_
                refine lv_istore (lv' := [(7, .int (if v7 < x27 then x27 else v7)), (0, .ref (E.ad 35)), (2, .int v2), (3, .int v3), (4, .int v4), (5, .int v5), (6, .int v6), (8, .int v8)]) hx hb dX4_join_145 hl (by decide) rfl (fun ls hl => ?_)
                refine lv_iload hx hb dX4_join_147 (lv_at hl 0 rfl) ?_
                refine lv_aload_n hx hb dX4_join_149 rfl (lv_at hl 1 rfl) ?_
                refine g_get (ci := 4) (k := 6) (val := .ref (E.ad 41)) C g_us hW rfl rfl rfl (in_sid _ rfl) (by decide) f_RX4_27 rfl dX4_join_150 ?_
                refine lv_iload hx hb dX4_join_153 (lv_at hl 7 rfl) ?_
                refine lv_bipush (v := 6) hx hb dX4_join_155 (by decide) ?_
                refine lv_imul hx hb dX4_join_157 ?_
                refine lv_iload_n hx hb dX4_join_158 rfl (lv_at hl 2 rfl) ?_
                refine lv_iadd hx hb dX4_join_159 ?_
                replace hf := bd_so hf
                obtain ⟨x29, h30, hf⟩ := hf
                refine g_iald C hW h30 dX4_join_160 ?_
                refine g_max C g_us hl.1 k_RX4_85 (Nat.le_of_ble_eq_true rfl) (Nat.le_of_ble_eq_true rfl) ⟨Nat.zero_le _, Nat.zero_le _⟩ dX4_join_161 ?_
                refine lv_istore (lv' := [(7, .int (if (if v7 < x27 then x27 else v7) < x29 then x29 else (if v7 < x27 then x27 else v7))), (0, .ref (E.ad 35)), (2, .int v2), (3, .int v3), (4, .int v4), (5, .int v5), (6, .int v6), (8, .int v8)]) hx hb dX4_join_164 hl (by decide) rfl (fun ls hl => ?_)
                obtain ⟨rfl, rfl⟩ := so2 hf
                exact J10 _ _ _ hW (lv_sub hl [1, 2, 3, 4, 5, 6, 0, 7] rfl)
              clear hf
              have hf := h23
              clear h23
              refine lv_if_eq (tgt := 114) hx hb dX4_join_107 (by decide) (fun c21 => ?_) (fun c21 => ?_)
              · replace hf := ift_ hf c21
                refine lv_aload_n hx hb dX4_join_114 rfl (lv_at hl 0 rfl) ?_
                refine g_get (ci := 4) (k := 6) (val := .ref (E.ad 41)) C g_us hW rfl rfl rfl (in_sid _ rfl) (by decide) f_RX4_27 rfl dX4_join_115 ?_
                refine lv_iload hx hb dX4_join_118 (lv_at hl 7 rfl) ?_
                refine lv_bipush (v := 6) hx hb dX4_join_120 (by decide) ?_
                refine lv_imul hx hb dX4_join_122 ?_
                refine lv_iload_n hx hb dX4_join_123 rfl (lv_at hl 2 rfl) ?_
                refine lv_iadd hx hb dX4_join_124 ?_
                replace hf := bd_so hf
                obtain ⟨x31, h32, hf⟩ := hf
                refine g_iald C hW h32 dX4_join_125 ?_
                obtain rfl := so1 hf
                exact J24 _ _ _ hW (lv_sub hl [0, 1, 2, 3, 4, 5, 6, 7] rfl)
              · replace hf := iff_ hf c21
                refine lv_iconst (v := 0) hx hb dX4_join_110 (by decide) ?_
                refine lv_goto (tgt := 126) hx hb dX4_join_111 (by decide) ?_
                obtain rfl := so1 hf
                exact J24 _ _ _ hW (lv_sub hl [0, 1, 2, 3, 4, 5, 6, 7] rfl)
            clear hf
            have hf := h17
            clear h17
            refine lv_if_eq (tgt := 78) hx hb dX4_join_71 (by decide) (fun c15 => ?_) (fun c15 => ?_)
            · replace hf := ift_ hf c15
              refine lv_aload_n hx hb dX4_join_78 rfl (lv_at hl 1 rfl) ?_
              refine g_get (ci := 4) (k := 6) (val := .ref (E.ad 41)) C g_us hW rfl rfl rfl (in_sid _ rfl) (by decide) f_RX4_27 rfl dX4_join_79 ?_
              refine lv_iload_n hx hb dX4_join_82 rfl (lv_at hl 3 rfl) ?_
              refine lv_bipush (v := 6) hx hb dX4_join_83 (by decide) ?_
              refine lv_imul hx hb dX4_join_85 ?_
              refine lv_iload hx hb dX4_join_86 (lv_at hl 8 rfl) ?_
              refine lv_iadd hx hb dX4_join_88 ?_
              replace hf := bd_so hf
              obtain ⟨x33, h34, hf⟩ := hf
              refine g_iald C hW h34 dX4_join_89 ?_
              obtain rfl := so1 hf
              exact J18 _ _ _ hW (lv_sub hl [1, 2, 3, 4, 5, 6, 7, 8, 0] rfl)
            · replace hf := iff_ hf c15
              refine lv_iconst (v := 0) hx hb dX4_join_74 (by decide) ?_
              refine lv_goto (tgt := 90) hx hb dX4_join_75 (by decide) ?_
              obtain rfl := so1 hf
              exact J18 _ _ _ hW (lv_sub hl [1, 2, 3, 4, 5, 6, 7, 8, 0] rfl)
          clear hf
          have hf := h13
          clear h13
          refine lv_icmp_ne (tgt := 53) hx hb dX4_join_46 (by decide) (fun c11 => ?_) (fun c11 => ?_)
          · replace hf := iff_ hf c11
            refine lv_iconst (v := 0) hx hb dX4_join_53 (by decide) ?_
            obtain rfl := so1 hf
            exact J14 _ _ _ hW (lv_sub hl [0, 1, 2, 3, 4, 5, 6, 7] rfl)
          · replace hf := ift_ hf c11
            refine lv_iconst (v := 1) hx hb dX4_join_49 (by decide) ?_
            refine lv_goto (tgt := 54) hx hb dX4_join_50 (by decide) ?_
            obtain rfl := so1 hf
            exact J14 _ _ _ hW (lv_sub hl [0, 1, 2, 3, 4, 5, 6, 7] rfl)
  unfold X4_join at hf
  refine lv_aload_n hx hb dX4_join_0 rfl (lv_at hl 0 rfl) ?_
  refine lv_aload_n hx hb dX4_join_1 rfl (lv_at hl 1 rfl) ?_
  refine lv_iload_n hx hb dX4_join_2 rfl (lv_at hl 2 rfl) ?_
  refine lv_iload_n hx hb dX4_join_3 rfl (lv_at hl 3 rfl) ?_
  replace hf := bd_so hf
  obtain ⟨x2, h1, hf⟩ := hf
  refine g_callVi (ci := 4) (As := [.ref (E.ad 2), .int a2, .int a3]) (rest := []) C g_us hW hl.1 (c_X4_blinksOf l E S a2 a3 _ h1) rfl rfl rfl (in_sid _ rfl) k_RX4_74 rfl ⟨rfl, rfl⟩ ⟨Nat.le_of_ble_eq_true rfl, Nat.le_of_ble_eq_true rfl⟩ ⟨Nat.zero_le _, Nat.zero_le _⟩ _ rfl (Nat.le_of_ble_eq_true rfl) dX4_join_4 (fun H locs hW => ?_)
  refine lv_istore (lv' := [(5, .int x2), (0, .ref (E.ad 35)), (1, .ref (E.ad 2)), (2, .int a2), (3, .int a3), (4, .int a4)]) hx hb dX4_join_7 hl (by decide) rfl (fun ls hl => ?_)
  refine lv_aload_n hx hb dX4_join_9 rfl (lv_at hl 1 rfl) ?_
  refine lv_aload_n hx hb dX4_join_10 rfl (lv_at hl 2 rfl) ?_
  refine lv_iload_n hx hb dX4_join_11 rfl (lv_at hl 4 rfl) ?_
  refine lv_iload_n hx hb dX4_join_12 rfl (lv_at hl 3 rfl) ?_
  replace hf := bd_so hf
  obtain ⟨x4, h3, hf⟩ := hf
  refine g_callVi (ci := 4) (As := [.ref (E.ad 2), .int a3, .int a2]) (rest := []) C g_us hW hl.1 (c_X4_blinksOf l E S a3 a2 _ h3) rfl rfl rfl (in_sid _ rfl) k_RX4_74 rfl ⟨rfl, rfl⟩ ⟨Nat.le_of_ble_eq_true rfl, Nat.le_of_ble_eq_true rfl⟩ ⟨Nat.zero_le _, Nat.zero_le _⟩ _ rfl (Nat.le_of_ble_eq_true rfl) dX4_join_13 (fun H locs hW => ?_)
  refine lv_istore (lv' := [(6, .int x4), (5, .int x2), (0, .ref (E.ad 35)), (1, .ref (E.ad 2)), (2, .int a2), (3, .int a3), (4, .int a4)]) hx hb dX4_join_16 hl (by decide) rfl (fun ls hl => ?_)
  refine lv_iconst (v := 0) hx hb dX4_join_18 (by decide) ?_
  refine lv_istore (lv' := [(7, .int 0), (6, .int x4), (5, .int x2), (0, .ref (E.ad 35)), (1, .ref (E.ad 2)), (2, .int a2), (3, .int a3), (4, .int a4)]) hx hb dX4_join_19 hl (by decide) rfl (fun ls hl => ?_)
  refine lv_iconst (v := 0) hx hb dX4_join_21 (by decide) ?_
  refine lv_istore (lv' := [(8, .int 0), (7, .int 0), (6, .int x4), (5, .int x2), (0, .ref (E.ad 35)), (1, .ref (E.ad 2)), (2, .int a2), (3, .int a3), (4, .int a4)]) hx hb dX4_join_22 hl (by decide) rfl (fun ls hl => ?_)
  replace hf := bd_so hf
  obtain ⟨⟨x35, S36⟩, h37, hf⟩ := hf
  dsimp only at hf
  have J38 : ∀ (H : Heap) (locs : List Loc) (ls : Array Slot), Ww E S36 s H locs → lv_has ls 10 [(7, .int x35)] → W p l e rm_X4_join s m args below meth c H locs 0 0 Q (F0 m 172 ls []) := by
    intro H locs ls hW hl
    refine lv_iload hx hb dX4_join_172 (lv_at hl 0 rfl) ?_
    obtain ⟨rfl, rfl⟩ := so2 hf
    exact kR _ _ _ _ hW dX4_join_174
  exact X4_join_L24_c _ _ _ _ _ _ FU _ _ _ _ _ _ hW (lv_sub hl [4, 6, 7, 8, 3, 2, 1, 0] rfl) h37 (fun _ _ H locs ls e hW hl => by cases e; exact J38 H locs ls hW hl)

abbrev rm_X4_greatestWait : Room := { frames := 4, cells := 0, slots := 0, locals := 134 }
set_option maxHeartbeats 4000000 in
set_option maxRecDepth 100000 in
theorem c_X4_greatestWait (l : Launch) (E : En) (S : St) (r : Int32) (S1 : St) (hf : X4_greatestWait S  = some (r, S1)) : Mi l E yX4_greatestWait cX4_greatestWait 5 (some .int) rm_X4_greatestWait [.ref (E.ad 35), .ref (E.ad 2)] S r S1 := by
  refine g_startI (cc := cX4_greatestWait) (n := 5) (by decide) (Nat.le_of_ble_eq_true rfl) ?_
  intro p e s m args below meth c Q H locs C kR hW ls hl
  obtain ⟨⟨hx, hb, hml, hown, hts⟩, hK, hT⟩ := id C
  have hl : lv_has ls 5 [(0, .ref (E.ad 35)), (1, .ref (E.ad 2))] := hl
  have X4_greatestWait_L24_c : ∀ (res : Int32 × St) (n : Nat) (v2 : Int32) (v3 : Int32) (v4 : Int32) (S : St) (H : Heap) (locs : List Loc) (ls : Array Slot), Ww E S s H locs → lv_has ls 5 [(0, .ref (E.ad 35)), (1, .ref (E.ad 2)), (2, .int v2), (3, .int v3), (4, .int v4)] → X4_greatestWait_L24  n v2 v3 v4 S = some res → (∀ (w2 : Int32) (T : St) (H : Heap) (locs : List Loc) (ls : Array Slot), some (w2, T) = some res → Ww E T s H locs → lv_has ls 5 [(2, .int w2)] → W p l e rm_X4_greatestWait s m args below meth c H locs 0 0 Q (F0 m 72 ls [])) → W p l e rm_X4_greatestWait s m args below meth c H locs 0 0 Q (F0 m 24 ls []) := by
    intro  res n
    induction n with
    | zero =>
      intro v2 v3 v4 S H locs ls hW hl hf
      cases hf
    | succ n ih =>
      intro v2 v3 v4 S H locs ls hW hl hf kE
      unfold X4_greatestWait_L24 at hf
      refine lv_iload hx hb dX4_greatestWait_24 (lv_at hl 4 rfl) ?_
      refine lv_if_lt (tgt := 72) hx hb dX4_greatestWait_26 (by decide) (fun c3 => ?_) (fun c3 => ?_)
      · replace hf := ift_ hf c3
        exact kE _ _ _ _ _ hf hW (lv_sub hl [2] rfl)
      · replace hf := iff_ hf c3
        refine lv_iload_n hx hb dX4_greatestWait_29 rfl (lv_at hl 2 rfl) ?_
        refine lv_aload_n hx hb dX4_greatestWait_30 rfl (lv_at hl 0 rfl) ?_
        refine lv_aload_n hx hb dX4_greatestWait_31 rfl (lv_at hl 1 rfl) ?_
        refine lv_aload_n hx hb dX4_greatestWait_32 rfl (lv_at hl 0 rfl) ?_
        refine g_get (ci := 4) (k := 4) (val := .ref (E.ad 39)) C g_us hW rfl rfl rfl (in_sid _ rfl) (by decide) f_RX4_21 rfl dX4_greatestWait_33 ?_
        refine lv_iload hx hb dX4_greatestWait_36 (lv_at hl 4 rfl) ?_
        replace hf := bd_so hf
        obtain ⟨x4, h5, hf⟩ := hf
        refine g_iald C hW h5 dX4_greatestWait_38 ?_
        refine lv_aload_n hx hb dX4_greatestWait_39 rfl (lv_at hl 0 rfl) ?_
        refine g_get (ci := 4) (k := 5) (val := .ref (E.ad 40)) C g_us hW rfl rfl rfl (in_sid _ rfl) (by decide) f_RX4_24 rfl dX4_greatestWait_40 ?_
        refine lv_iload hx hb dX4_greatestWait_43 (lv_at hl 4 rfl) ?_
        replace hf := bd_so hf
        obtain ⟨x6, h7, hf⟩ := hf
        refine g_iald C hW h7 dX4_greatestWait_45 ?_
        refine lv_iload_n hx hb dX4_greatestWait_46 rfl (lv_at hl 3 rfl) ?_
        replace hf := bd_so hf
        obtain ⟨⟨x9, S10⟩, h8, hf⟩ := hf
        dsimp only at hf
        refine g_callVi (ci := 4) (As := [.ref (E.ad 2), .int x4, .int x6, .int v3]) (rest := [.int v2]) C g_us hW hl.1 (c_X4_join l E S x4 x6 v3 _ _ h8) rfl rfl rfl (in_sid _ rfl) k_RX4_81 rfl ⟨rfl, rfl⟩ ⟨Nat.le_of_ble_eq_true rfl, Nat.le_of_ble_eq_true rfl⟩ ⟨Nat.zero_le _, Nat.zero_le _⟩ _ rfl (Nat.le_of_ble_eq_true rfl) dX4_greatestWait_47 (fun H locs hW => ?_)
        refine g_max C g_us hl.1 k_RX4_85 (Nat.le_of_ble_eq_true rfl) (Nat.le_of_ble_eq_true rfl) ⟨Nat.zero_le _, Nat.zero_le _⟩ dX4_greatestWait_50 ?_
        refine lv_istore_n (lv' := [(2, .int (if v2 < x9 then x9 else v2)), (0, .ref (E.ad 35)), (1, .ref (E.ad 2)), (3, .int v3), (4, .int v4)]) hx hb dX4_greatestWait_53 rfl hl (by decide) rfl (fun ls hl => ?_)
        refine lv_iload_n hx hb dX4_greatestWait_54 rfl (lv_at hl 3 rfl) ?_
        refine lv_iconst (v := 1) hx hb dX4_greatestWait_55 (by decide) ?_
        refine lv_aload_n hx hb dX4_greatestWait_56 rfl (lv_at hl 1 rfl) ?_
        refine g_get (ci := 4) (k := 4) (val := .ref (E.ad 39)) C g_us hW rfl rfl rfl (in_sid _ rfl) (by decide) f_RX4_21 rfl dX4_greatestWait_57 ?_
        refine lv_iload hx hb dX4_greatestWait_60 (lv_at hl 4 rfl) ?_
        replace hf := bd_so hf
        obtain ⟨x11, h12, hf⟩ := hf
        refine g_iald C hW h12 dX4_greatestWait_62 ?_
        refine lv_ishl hx hb dX4_greatestWait_63 ?_
        refine lv_ior hx hb dX4_greatestWait_64 ?_
        refine lv_istore_n (lv' := [(3, .int (v3 ||| (1 <<< (x11 &&& 31)))), (2, .int (if v2 < x9 then x9 else v2)), (0, .ref (E.ad 35)), (1, .ref (E.ad 2)), (4, .int v4)]) hx hb dX4_greatestWait_65 rfl hl (by decide) rfl (fun ls hl => ?_)
        refine lv_iinc (v := (v4 + (-1))) (lv' := [(4, .int (v4 + (-1))), (3, .int (v3 ||| (1 <<< (x11 &&& 31)))), (2, .int (if v2 < x9 then x9 else v2)), (0, .ref (E.ad 35)), (1, .ref (E.ad 2))]) hx hb dX4_greatestWait_66 hl (k := 4) rfl rfl (by decide) rfl (fun ls hl => ?_)
        refine lv_goto (tgt := 24) hx hb dX4_greatestWait_69 (by decide) ?_
        exact ih _ _ _ _ _ _ _ hW (lv_sub hl [3, 4, 2, 1, 0] rfl) hf kE
  unfold X4_greatestWait at hf
  refine lv_iconst (v := 0) hx hb dX4_greatestWait_0 (by decide) ?_
  refine lv_istore_n (lv' := [(2, .int 0), (0, .ref (E.ad 35)), (1, .ref (E.ad 2))]) hx hb dX4_greatestWait_1 rfl hl (by decide) rfl (fun ls hl => ?_)
  refine lv_iconst (v := 1) hx hb dX4_greatestWait_2 (by decide) ?_
  refine lv_aload_n hx hb dX4_greatestWait_3 rfl (lv_at hl 1 rfl) ?_
  refine g_get (ci := 4) (k := 5) (val := .ref (E.ad 40)) C g_us hW rfl rfl rfl (in_sid _ rfl) (by decide) f_RX4_24 rfl dX4_greatestWait_4 ?_
  refine lv_aload_n hx hb dX4_greatestWait_7 rfl (lv_at hl 1 rfl) ?_
  refine g_get (ci := 4) (k := 0) (val := .int (rI S 35 0)) C g_us hW rfl rfl rfl (in_sid _ rfl) (by decide) f_RX4_34 rfl dX4_greatestWait_8 ?_
  refine lv_iconst (v := 2) hx hb dX4_greatestWait_11 (by decide) ?_
  refine lv_isub hx hb dX4_greatestWait_12 ?_
  replace hf := bd_so hf
  obtain ⟨x1, h2, hf⟩ := hf
  refine g_iald C hW h2 dX4_greatestWait_13 ?_
  refine lv_ishl hx hb dX4_greatestWait_14 ?_
  refine lv_istore_n (lv' := [(3, .int (1 <<< (x1 &&& 31))), (2, .int 0), (0, .ref (E.ad 35)), (1, .ref (E.ad 2))]) hx hb dX4_greatestWait_15 rfl hl (by decide) rfl (fun ls hl => ?_)
  refine lv_aload_n hx hb dX4_greatestWait_16 rfl (lv_at hl 2 rfl) ?_
  refine g_get (ci := 4) (k := 0) (val := .int (rI S 35 0)) C g_us hW rfl rfl rfl (in_sid _ rfl) (by decide) f_RX4_34 rfl dX4_greatestWait_17 ?_
  refine lv_iconst (v := 2) hx hb dX4_greatestWait_20 (by decide) ?_
  refine lv_isub hx hb dX4_greatestWait_21 ?_
  refine lv_istore (lv' := [(4, .int ((rI S 35 0) - 2)), (3, .int (1 <<< (x1 &&& 31))), (2, .int 0), (0, .ref (E.ad 35)), (1, .ref (E.ad 2))]) hx hb dX4_greatestWait_22 hl (by decide) rfl (fun ls hl => ?_)
  replace hf := bd_so hf
  obtain ⟨⟨x13, S14⟩, h15, hf⟩ := hf
  dsimp only at hf
  have J16 : ∀ (H : Heap) (locs : List Loc) (ls : Array Slot), Ww E S14 s H locs → lv_has ls 5 [(2, .int x13)] → W p l e rm_X4_greatestWait s m args below meth c H locs 0 0 Q (F0 m 72 ls []) := by
    intro H locs ls hW hl
    refine lv_iload_n hx hb dX4_greatestWait_72 rfl (lv_at hl 0 rfl) ?_
    obtain ⟨rfl, rfl⟩ := so2 hf
    exact kR _ _ _ _ hW dX4_greatestWait_73
  exact X4_greatestWait_L24_c _ FU _ _ _ _ _ _ _ hW (lv_sub hl [3, 4, 2, 1, 0] rfl) h15 (fun _ _ H locs ls e hW hl => by cases e; exact J16 H locs ls hW hl)

abbrev rm_X4_leastWait : Room := { frames := 5, cells := 0, slots := 0, locals := 158 }
set_option maxHeartbeats 4000000 in
set_option maxRecDepth 100000 in
theorem c_X4_leastWait (l : Launch) (E : En) (S : St) (r : Int32) (S1 : St) (hf : X4_leastWait S  = some (r, S1)) : Mi l E yX4_leastWait cX4_leastWait 6 (some .int) rm_X4_leastWait [.ref (E.ad 35), .ref (E.ad 2)] S r S1 := by
  refine g_startI (cc := cX4_leastWait) (n := 6) (by decide) (Nat.le_of_ble_eq_true rfl) ?_
  intro p e s m args below meth c Q H locs C kR hW ls hl
  obtain ⟨⟨hx, hb, hml, hown, hts⟩, hK, hT⟩ := id C
  have hl : lv_has ls 6 [(0, .ref (E.ad 35)), (1, .ref (E.ad 2))] := hl
  have X4_leastWait_L9_c : ∀ (S : St) (res : Int32) (n : Nat) (v2 : Int32) (v3 : Int32) (H : Heap) (locs : List Loc) (ls : Array Slot), Ww E S s H locs → lv_has ls 6 [(0, .ref (E.ad 35)), (1, .ref (E.ad 2)), (2, .int v2), (3, .int v3)] → X4_leastWait_L9 S  n v2 v3 = some res → (∀ (w2 : Int32) (H : Heap) (locs : List Loc) (ls : Array Slot), some w2 = some res → Ww E S s H locs → lv_has ls 6 [(0, .ref (E.ad 35)), (1, .ref (E.ad 2)), (2, .int w2)] → W p l e rm_X4_leastWait s m args below meth c H locs 0 0 Q (F0 m 32 ls [])) → W p l e rm_X4_leastWait s m args below meth c H locs 0 0 Q (F0 m 9 ls []) := by
    intro S  res n
    induction n with
    | zero =>
      intro v2 v3 H locs ls hW hl hf
      cases hf
    | succ n ih =>
      intro v2 v3 H locs ls hW hl hf kE
      unfold X4_leastWait_L9 at hf
      refine lv_iload_n hx hb dX4_leastWait_9 rfl (lv_at hl 3 rfl) ?_
      refine lv_aload_n hx hb dX4_leastWait_10 rfl (lv_at hl 0 rfl) ?_
      refine g_get (ci := 4) (k := 0) (val := .int (rI S 35 0)) C g_us hW rfl rfl rfl (in_sid _ rfl) (by decide) f_RX4_34 rfl dX4_leastWait_11 ?_
      refine lv_iconst (v := 2) hx hb dX4_leastWait_14 (by decide) ?_
      refine lv_isub hx hb dX4_leastWait_15 ?_
      refine lv_icmp_ge (tgt := 32) hx hb dX4_leastWait_16 (by decide) (fun c3 => ?_) (fun c3 => ?_)
      · replace hf := ift_ hf c3
        exact kE _ _ _ _ hf hW (lv_sub hl [0, 1, 2] rfl)
      · replace hf := iff_ hf c3
        refine lv_iload_n hx hb dX4_leastWait_19 rfl (lv_at hl 2 rfl) ?_
        refine lv_aload_n hx hb dX4_leastWait_20 rfl (lv_at hl 0 rfl) ?_
        refine g_get (ci := 4) (k := 0) (val := .int (rI S 35 0)) C g_us hW rfl rfl rfl (in_sid _ rfl) (by decide) f_RX4_34 rfl dX4_leastWait_21 ?_
        refine lv_imul hx hb dX4_leastWait_24 ?_
        refine lv_istore_n (lv' := [(2, .int (v2 * (rI S 35 0))), (0, .ref (E.ad 35)), (1, .ref (E.ad 2)), (3, .int v3)]) hx hb dX4_leastWait_25 rfl hl (by decide) rfl (fun ls hl => ?_)
        refine lv_iinc (v := (v3 + 1)) (lv' := [(3, .int (v3 + 1)), (2, .int (v2 * (rI S 35 0))), (0, .ref (E.ad 35)), (1, .ref (E.ad 2))]) hx hb dX4_leastWait_26 hl (k := 3) rfl rfl (by decide) rfl (fun ls hl => ?_)
        refine lv_goto (tgt := 9) hx hb dX4_leastWait_29 (by decide) ?_
        exact ih _ _ _ _ _ hW (lv_sub hl [2, 3, 1, 0] rfl) hf kE
  have X4_leastWait_L38_c : ∀ (v2 : Int32) (res : Int32 × St) (n : Nat) (v3 : Int32) (v4 : Int32) (S : St) (H : Heap) (locs : List Loc) (ls : Array Slot), Ww E S s H locs → lv_has ls 6 [(0, .ref (E.ad 35)), (1, .ref (E.ad 2)), (2, .int v2), (3, .int v3), (4, .int v4)] → X4_leastWait_L38 v2 n v3 v4 S = some res → (∀ (w3 : Int32) (T : St) (H : Heap) (locs : List Loc) (ls : Array Slot), some (w3, T) = some res → Ww E T s H locs → lv_has ls 6 [(3, .int w3)] → W p l e rm_X4_leastWait s m args below meth c H locs 0 0 Q (F0 m 85 ls [])) → W p l e rm_X4_leastWait s m args below meth c H locs 0 0 Q (F0 m 38 ls []) := by
    intro v2 res n
    induction n with
    | zero =>
      intro v3 v4 S H locs ls hW hl hf
      cases hf
    | succ n ih =>
      intro v3 v4 S H locs ls hW hl hf kE
      unfold X4_leastWait_L38 at hf
      refine lv_iload hx hb dX4_leastWait_38 (lv_at hl 4 rfl) ?_
      refine lv_iload_n hx hb dX4_leastWait_40 rfl (lv_at hl 2 rfl) ?_
      refine lv_icmp_ge (tgt := 85) hx hb dX4_leastWait_41 (by decide) (fun c6 => ?_) (fun c6 => ?_)
      · replace hf := ift_ hf c6
        exact kE _ _ _ _ _ hf hW (lv_sub hl [3] rfl)
      · replace hf := iff_ hf c6
        refine lv_aload_n hx hb dX4_leastWait_44 rfl (lv_at hl 0 rfl) ?_
        refine lv_aload_n hx hb dX4_leastWait_45 rfl (lv_at hl 1 rfl) ?_
        refine lv_iload hx hb dX4_leastWait_46 (lv_at hl 4 rfl) ?_
        replace hf := bd_so hf
        obtain ⟨⟨x8, S9⟩, h7, hf⟩ := hf
        dsimp only at hf
        refine g_callVi (ci := 4) (As := [.ref (E.ad 2), .int v4]) (rest := []) C g_us hW hl.1 (c_X4_decode l E S v4 _ _ h7) rfl rfl rfl (in_sid _ rfl) k_RX4_38 rfl ⟨rfl, rfl⟩ ⟨Nat.le_of_ble_eq_true rfl, Nat.le_of_ble_eq_true rfl⟩ ⟨Nat.zero_le _, Nat.zero_le _⟩ _ rfl (Nat.le_of_ble_eq_true rfl) dX4_leastWait_48 (fun H locs hW => ?_)
        replace hf := bd_so hf
        obtain ⟨⟨x11, S12⟩, h13, hf⟩ := hf
        dsimp only at hf
        have J14 : ∀ (H : Heap) (locs : List Loc) (ls : Array Slot), Ww E S12 s H locs → lv_has ls 6 [(0, .ref (E.ad 35)), (1, .ref (E.ad 2)), (2, .int v2), (3, .int x11), (4, .int v4)] → W p l e rm_X4_leastWait s m args below meth c H locs 0 0 Q (F0 m 79 ls []) := by
          intro H locs ls hW hl
          refine lv_iinc (v := (v4 + 1)) (lv' := [(4, .int (v4 + 1)), (0, .ref (E.ad 35)), (1, .ref (E.ad 2)), (2, .int v2), (3, .int x11)]) hx hb dX4_leastWait_79 hl (k := 4) rfl rfl (by decide) rfl (fun ls hl => ?_)
          refine lv_goto (tgt := 38) hx hb dX4_leastWait_82 (by decide) ?_
          exact ih _ _ _ _ _ _ hW (lv_sub hl [1, 2, 3, 4, 0] rfl) hf kE
        clear hf
        have hf := h13
        clear h13
        refine lv_if_eq (tgt := 79) hx hb dX4_leastWait_51 (by decide) (fun c10 => ?_) (fun c10 => ?_)
        · replace hf := ift_ hf c10
          obtain ⟨rfl, rfl⟩ := so2 hf
          exact J14 _ _ _ hW (lv_sub hl [0, 1, 2, 3, 4] rfl)
        · replace hf := iff_ hf c10
          refine lv_aload_n hx hb dX4_leastWait_54 rfl (lv_at hl 0 rfl) ?_
          refine lv_aload_n hx hb dX4_leastWait_55 rfl (lv_at hl 1 rfl) ?_
          replace hf := bd_so hf
          obtain ⟨⟨x16, S17⟩, h15, hf⟩ := hf
          dsimp only at hf
          refine g_callVi (ci := 4) (As := [.ref (E.ad 2)]) (rest := []) C g_us hW hl.1 (c_X4_greatestWait l E S9  _ _ h15) rfl rfl rfl (in_sid _ rfl) k_RX4_42 rfl ⟨rfl, rfl⟩ ⟨Nat.le_of_ble_eq_true rfl, Nat.le_of_ble_eq_true rfl⟩ ⟨Nat.zero_le _, Nat.zero_le _⟩ _ rfl (Nat.le_of_ble_eq_true rfl) dX4_leastWait_56 (fun H locs hW => ?_)
          refine lv_istore (lv' := [(5, .int x16), (0, .ref (E.ad 35)), (1, .ref (E.ad 2)), (2, .int v2), (3, .int v3), (4, .int v4)]) hx hb dX4_leastWait_59 hl (by decide) rfl (fun ls hl => ?_)
          refine lv_iload_n hx hb dX4_leastWait_61 rfl (lv_at hl 4 rfl) ?_
          refine lv_bipush (v := (-4)) hx hb dX4_leastWait_62 (by decide) ?_
          replace hf := bd_so hf
          obtain ⟨x19, h20, hf⟩ := hf
          have J21 : ∀ (H : Heap) (locs : List Loc) (ls : Array Slot), Ww E S17 s H locs → lv_has ls 6 [(0, .ref (E.ad 35)), (1, .ref (E.ad 2)), (2, .int v2), (4, .int v4)] → W p l e rm_X4_leastWait s m args below meth c H locs 0 0 Q (F0 m 78 ls [.int x19]) := by
            intro H locs ls hW hl
            refine lv_istore_n (lv' := [(3, .int x19), (0, .ref (E.ad 35)), (1, .ref (E.ad 2)), (2, .int v2), (4, .int v4)]) hx hb dX4_leastWait_78 rfl hl (by decide) rfl (fun ls hl => ?_)
            obtain ⟨rfl, rfl⟩ := so2 hf
            exact J14 _ _ _ hW (lv_sub hl [1, 2, 3, 0, 4] rfl)
          clear hf
          have hf := h20
          clear h20
          refine lv_icmp_ne (tgt := 72) hx hb dX4_leastWait_64 (by decide) (fun c18 => ?_) (fun c18 => ?_)
          · replace hf := iff_ hf c18
            refine lv_iload_n hx hb dX4_leastWait_72 rfl (lv_at hl 4 rfl) ?_
            refine lv_iload hx hb dX4_leastWait_73 (lv_at hl 0 rfl) ?_
            refine g_min C g_us hl.1 k_RX4_46 (Nat.le_of_ble_eq_true rfl) (Nat.le_of_ble_eq_true rfl) ⟨Nat.zero_le _, Nat.zero_le _⟩ dX4_leastWait_75 ?_
            obtain rfl := so1 hf
            exact J21 _ _ _ hW (lv_sub hl [1, 2, 3, 5] rfl)
          · replace hf := ift_ hf c18
            refine lv_iload hx hb dX4_leastWait_67 (lv_at hl 0 rfl) ?_
            refine lv_goto (tgt := 78) hx hb dX4_leastWait_69 (by decide) ?_
            obtain rfl := so1 hf
            exact J21 _ _ _ hW (lv_sub hl [1, 2, 3, 5] rfl)
  unfold X4_leastWait at hf
  refine lv_aload_n hx hb dX4_leastWait_0 rfl (lv_at hl 0 rfl) ?_
  refine lv_aload_n hx hb dX4_leastWait_1 rfl (lv_at hl 1 rfl) ?_
  replace hf := bd_so hf
  obtain ⟨S2, h1, hf⟩ := hf
  refine g_callVv (ci := 4) (As := [.ref (E.ad 2)]) (rest := []) C g_us hW hl.1 (c_X4_gather l E S  _ h1) rfl rfl rfl (in_sid _ rfl) k_RX4_30 rfl ⟨rfl, rfl⟩ ⟨Nat.le_of_ble_eq_true rfl, Nat.le_of_ble_eq_true rfl⟩ ⟨Nat.zero_le _, Nat.zero_le _⟩ _ rfl (Nat.le_of_ble_eq_true rfl) dX4_leastWait_2 (fun H locs hW => ?_)
  refine lv_iconst (v := 1) hx hb dX4_leastWait_5 (by decide) ?_
  refine lv_istore_n (lv' := [(2, .int 1), (0, .ref (E.ad 35)), (1, .ref (E.ad 2))]) hx hb dX4_leastWait_6 rfl hl (by decide) rfl (fun ls hl => ?_)
  refine lv_iconst (v := 0) hx hb dX4_leastWait_7 (by decide) ?_
  refine lv_istore_n (lv' := [(3, .int 0), (2, .int 1), (0, .ref (E.ad 35)), (1, .ref (E.ad 2))]) hx hb dX4_leastWait_8 rfl hl (by decide) rfl (fun ls hl => ?_)
  replace hf := bd_so hf
  obtain ⟨x4, h5, hf⟩ := hf
  have J26 : ∀ (H : Heap) (locs : List Loc) (ls : Array Slot), Ww E S2 s H locs → lv_has ls 6 [(0, .ref (E.ad 35)), (1, .ref (E.ad 2)), (2, .int x4)] → W p l e rm_X4_leastWait s m args below meth c H locs 0 0 Q (F0 m 32 ls []) := by
    intro H locs ls hW hl
    refine lv_bipush (v := (-4)) hx hb dX4_leastWait_32 (by decide) ?_
    refine lv_istore_n (lv' := [(3, .int (-4)), (0, .ref (E.ad 35)), (1, .ref (E.ad 2)), (2, .int x4)]) hx hb dX4_leastWait_34 rfl hl (by decide) rfl (fun ls hl => ?_)
    refine lv_iconst (v := 0) hx hb dX4_leastWait_35 (by decide) ?_
    refine lv_istore (lv' := [(4, .int 0), (3, .int (-4)), (0, .ref (E.ad 35)), (1, .ref (E.ad 2)), (2, .int x4)]) hx hb dX4_leastWait_36 hl (by decide) rfl (fun ls hl => ?_)
    replace hf := bd_so hf
    obtain ⟨⟨x22, S23⟩, h24, hf⟩ := hf
    dsimp only at hf
    have J25 : ∀ (H : Heap) (locs : List Loc) (ls : Array Slot), Ww E S23 s H locs → lv_has ls 6 [(3, .int x22)] → W p l e rm_X4_leastWait s m args below meth c H locs 0 0 Q (F0 m 85 ls []) := by
      intro H locs ls hW hl
      refine lv_iload_n hx hb dX4_leastWait_85 rfl (lv_at hl 0 rfl) ?_
      obtain ⟨rfl, rfl⟩ := so2 hf
      exact kR _ _ _ _ hW dX4_leastWait_86
    exact X4_leastWait_L38_c _ _ FU _ _ _ _ _ _ hW (lv_sub hl [2, 3, 4, 1, 0] rfl) h24 (fun _ _ H locs ls e hW hl => by cases e; exact J25 H locs ls hW hl)
  exact X4_leastWait_L9_c _ _ FU _ _ _ _ _ hW (lv_sub hl [2, 3, 1, 0] rfl) h5 (fun _ H locs ls e hW hl => by cases e; exact J26 H locs ls hW hl)
