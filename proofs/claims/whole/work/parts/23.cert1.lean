abbrev rm_X10_fit : Room := { frames := 1, cells := 0, slots := 0, locals := 60 }
set_option maxHeartbeats 4000000 in
set_option maxRecDepth 100000 in
theorem c_X10_fit (l : Launch) (E : En) (S : St) (a1 : Int32) (r : Int32) (S1 : St) (hf : X10_fit S a1 = some (r, S1)) : Mi l E yX10_fit cX10_fit 3 (some .int) rm_X10_fit [.ref (E.ad 0), .int a1] S r S1 := by
  refine g_startI (cc := cX10_fit) (n := 3) (by decide) (Nat.le_of_ble_eq_true rfl) ?_
  intro p e s m args below meth c Q H locs C kR hW ls hl
  obtain ⟨⟨hx, hb, hml, hown, hts⟩, hK, hT⟩ := id C
  have hl : lv_has ls 3 [(0, .ref (E.ad 0)), (1, .int a1)] := hl
  unfold X10_fit at hf
  refine lv_iload_n hx hb dX10_fit_0 rfl (lv_at hl 1 rfl) ?_
  refine lv_if_lt (tgt := 10) hx hb dX10_fit_1 (by decide) (fun c1 => ?_) (fun c1 => ?_)
  · replace hf := ift_ hf c1
    refine lv_iconst (v := (-1)) hx hb dX10_fit_10 (by decide) ?_
    obtain ⟨rfl, rfl⟩ := so2 hf
    exact kR _ _ _ _ hW dX10_fit_11
  · replace hf := iff_ hf c1
    refine lv_iload_n hx hb dX10_fit_4 rfl (lv_at hl 1 rfl) ?_
    refine lv_bipush (v := 127) hx hb dX10_fit_5 (by decide) ?_
    refine lv_icmp_le (tgt := 12) hx hb dX10_fit_7 (by decide) (fun c2 => ?_) (fun c2 => ?_)
    · replace hf := ift_ hf c2
      refine lv_aload_n hx hb dX10_fit_12 rfl (lv_at hl 0 rfl) ?_
      refine g_get (ci := 10) (k := 0) (val := .ref (E.ad 1)) C g_us hW rfl rfl rfl (in_sid _ rfl) (by decide) f_RX10_10 rfl dX10_fit_13 ?_
      refine g_get (ci := 1) (k := 3) (val := .int (rI S 1 3)) C g_us hW rfl rfl rfl (in_sid _ rfl) (by decide) f_RX10_221 rfl dX10_fit_16 ?_
      refine lv_istore_n (lv' := [(2, .int (rI S 1 3)), (0, .ref (E.ad 0)), (1, .int a1)]) hx hb dX10_fit_19 rfl hl (by decide) rfl (fun ls hl => ?_)
      refine lv_aload_n hx hb dX10_fit_20 rfl (lv_at hl 1 rfl) ?_
      refine g_get (ci := 10) (k := 0) (val := .ref (E.ad 1)) C g_us hW rfl rfl rfl (in_sid _ rfl) (by decide) f_RX10_10 rfl dX10_fit_21 ?_
      refine lv_iload_n hx hb dX10_fit_24 rfl (lv_at hl 2 rfl) ?_
      replace hf := bd_so hf
      obtain ⟨S3, h4, hf⟩ := hf
      refine g_putI (ci := 1) (k := 3) C g_us hW rfl rfl rfl (in_sid _ rfl) (by decide) f_RX10_221 rfl rfl rfl h4 dX10_fit_25 (fun H locs hW => ?_)
      refine lv_iload_n hx hb dX10_fit_28 rfl (lv_at hl 0 rfl) ?_
      obtain ⟨rfl, rfl⟩ := so2 hf
      exact kR _ _ _ _ hW dX10_fit_29
    · replace hf := iff_ hf c2
      refine lv_iconst (v := (-1)) hx hb dX10_fit_10 (by decide) ?_
      obtain ⟨rfl, rfl⟩ := so2 hf
      exact kR _ _ _ _ hW dX10_fit_11

abbrev rm_X10_clashes : Room := { frames := 2, cells := 0, slots := 0, locals := 86 }
set_option maxHeartbeats 4000000 in
set_option maxRecDepth 100000 in
theorem c_X10_clashes (l : Launch) (E : En) (S : St) (a1 : Int32) (r : Int32) (hf : X10_clashes S a1 = some r) : Mi l E yX10_clashes cX10_clashes 2 (some .int) rm_X10_clashes [.ref (E.ad 0), .int a1] S r S := by
  refine g_startI (cc := cX10_clashes) (n := 2) (by decide) (Nat.le_of_ble_eq_true rfl) ?_
  intro p e s m args below meth c Q H locs C kR hW ls hl
  obtain ⟨⟨hx, hb, hml, hown, hts⟩, hK, hT⟩ := id C
  have hl : lv_has ls 2 [(0, .ref (E.ad 0)), (1, .int a1)] := hl
  unfold X10_clashes at hf
  refine lv_iload_n hx hb dX10_clashes_0 rfl (lv_at hl 1 rfl) ?_
  refine lv_iconst (v := 1) hx hb dX10_clashes_1 (by decide) ?_
  refine lv_icmp_lt (tgt := 19) hx hb dX10_clashes_2 (by decide) (fun c1 => ?_) (fun c1 => ?_)
  · replace hf := ift_ hf c1
    refine lv_iconst (v := (-1)) hx hb dX10_clashes_19 (by decide) ?_
    refine lv_goto (tgt := 41) hx hb dX10_clashes_20 (by decide) ?_
    obtain rfl := so1 hf
    exact kR _ _ _ _ hW dX10_clashes_41
  · replace hf := iff_ hf c1
    refine lv_iload_n hx hb dX10_clashes_5 rfl (lv_at hl 1 rfl) ?_
    refine lv_aload_n hx hb dX10_clashes_6 rfl (lv_at hl 0 rfl) ?_
    refine g_get (ci := 10) (k := 0) (val := .ref (E.ad 1)) C g_us hW rfl rfl rfl (in_sid _ rfl) (by decide) f_RX10_10 rfl dX10_clashes_7 ?_
    refine g_get (ci := 1) (k := 1) (val := .ref (E.ad 6)) C g_us hW rfl rfl rfl (in_sid _ rfl) (by decide) f_RX10_157 rfl dX10_clashes_10 ?_
    refine g_get (ci := 5) (k := 0) (val := .int (rI S 6 0)) C g_us hW rfl rfl rfl (in_sid _ rfl) (by decide) f_RX10_161 rfl dX10_clashes_13 ?_
    refine lv_icmp_lt (tgt := 23) hx hb dX10_clashes_16 (by decide) (fun c2 => ?_) (fun c2 => ?_)
    · replace hf := ift_ hf c2
      refine lv_aload_n hx hb dX10_clashes_23 rfl (lv_at hl 0 rfl) ?_
      refine g_get (ci := 10) (k := 0) (val := .ref (E.ad 1)) C g_us hW rfl rfl rfl (in_sid _ rfl) (by decide) f_RX10_10 rfl dX10_clashes_24 ?_
      refine g_get (ci := 1) (k := 1) (val := .ref (E.ad 6)) C g_us hW rfl rfl rfl (in_sid _ rfl) (by decide) f_RX10_157 rfl dX10_clashes_27 ?_
      refine lv_iload_n hx hb dX10_clashes_30 rfl (lv_at hl 1 rfl) ?_
      refine lv_aload_n hx hb dX10_clashes_31 rfl (lv_at hl 0 rfl) ?_
      refine g_get (ci := 10) (k := 0) (val := .ref (E.ad 1)) C g_us hW rfl rfl rfl (in_sid _ rfl) (by decide) f_RX10_10 rfl dX10_clashes_32 ?_
      refine g_get (ci := 1) (k := 3) (val := .int (rI S 1 3)) C g_us hW rfl rfl rfl (in_sid _ rfl) (by decide) f_RX10_221 rfl dX10_clashes_35 ?_
      replace hf := bd_so hf
      obtain ⟨x4, h3, hf⟩ := hf
      refine g_callVi (ci := 5) (As := [.int a1, .int (rI S 1 3)]) (rest := []) C g_us hW hl.1 (c_X5_clashesAt l E S a1 (rI S 1 3) _ h3) rfl rfl rfl (in_sid _ rfl) k_RX10_224 rfl ⟨rfl, rfl⟩ ⟨Nat.le_of_ble_eq_true rfl, Nat.le_of_ble_eq_true rfl⟩ ⟨Nat.zero_le _, Nat.zero_le _⟩ _ rfl (Nat.le_of_ble_eq_true rfl) dX10_clashes_38 (fun H locs hW => ?_)
      obtain rfl := so1 hf
      exact kR _ _ _ _ hW dX10_clashes_41
    · replace hf := iff_ hf c2
      refine lv_iconst (v := (-1)) hx hb dX10_clashes_19 (by decide) ?_
      refine lv_goto (tgt := 41) hx hb dX10_clashes_20 (by decide) ?_
      obtain rfl := so1 hf
      exact kR _ _ _ _ hW dX10_clashes_41

abbrev rm_X10_canon : Room := { frames := 2, cells := 0, slots := 0, locals := 86 }
set_option maxHeartbeats 4000000 in
set_option maxRecDepth 100000 in
theorem c_X10_canon (l : Launch) (E : En) (S : St) (a1 : Int32) (r : Int32) (hf : X10_canon S a1 = some r) : Mi l E yX10_canon cX10_canon 4 (some .int) rm_X10_canon [.ref (E.ad 0), .int a1] S r S := by
  refine g_startI (cc := cX10_canon) (n := 4) (by decide) (Nat.le_of_ble_eq_true rfl) ?_
  intro p e s m args below meth c Q H locs C kR hW ls hl
  obtain ⟨⟨hx, hb, hml, hown, hts⟩, hK, hT⟩ := id C
  have hl : lv_has ls 4 [(0, .ref (E.ad 0)), (1, .int a1)] := hl
  have X10_canon_L10_c : ∀ (S : St) (v1 : Int32) (res : (Unit) ⊕ (Int32)) (n : Nat) (v2 : Int32) (v3 : Int32) (H : Heap) (locs : List Loc) (ls : Array Slot), Ww E S s H locs → lv_has ls 4 [(0, .ref (E.ad 0)), (1, .int v1), (2, .int v2), (3, .int v3)] → X10_canon_L10 S v1 n v2 v3 = some res → (∀ (H : Heap) (locs : List Loc) (ls : Array Slot), some (.inl ()) = some res → Ww E S s H locs → lv_has ls 4 [] → W p l e rm_X10_canon s m args below meth c H locs 0 0 Q (F0 m 61 ls [])) → (∀ (r0 : Int32) (H : Heap) (locs : List Loc) (pc : Nat) (ls : Array Slot), some (.inr r0) = some res → Ww E S s H locs → decode cX10_canon pc = .ok (.ireturn, 1) → W p l e rm_X10_canon s m args below meth c H locs 0 0 Q (F0 m pc ls [.int r0])) → W p l e rm_X10_canon s m args below meth c H locs 0 0 Q (F0 m 10 ls []) := by
    intro S v1 res n
    induction n with
    | zero =>
      intro v2 v3 H locs ls hW hl hf
      cases hf
    | succ n ih =>
      intro v2 v3 H locs ls hW hl hf kE kR
      unfold X10_canon_L10 at hf
      refine lv_iload_n hx hb dX10_canon_10 rfl (lv_at hl 3 rfl) ?_
      refine lv_aload_n hx hb dX10_canon_11 rfl (lv_at hl 0 rfl) ?_
      refine g_get (ci := 10) (k := 0) (val := .ref (E.ad 1)) C g_us hW rfl rfl rfl (in_sid _ rfl) (by decide) f_RX10_10 rfl dX10_canon_12 ?_
      refine g_get (ci := 1) (k := 1) (val := .ref (E.ad 6)) C g_us hW rfl rfl rfl (in_sid _ rfl) (by decide) f_RX10_157 rfl dX10_canon_15 ?_
      refine g_get (ci := 5) (k := 0) (val := .int (rI S 6 0)) C g_us hW rfl rfl rfl (in_sid _ rfl) (by decide) f_RX10_161 rfl dX10_canon_18 ?_
      refine lv_icmp_ge (tgt := 61) hx hb dX10_canon_21 (by decide) (fun c2 => ?_) (fun c2 => ?_)
      · replace hf := ift_ hf c2
        exact kE  _ _ _ hf hW (lv_sub hl [] rfl)
      · replace hf := iff_ hf c2
        refine lv_aload_n hx hb dX10_canon_24 rfl (lv_at hl 0 rfl) ?_
        refine g_get (ci := 10) (k := 0) (val := .ref (E.ad 1)) C g_us hW rfl rfl rfl (in_sid _ rfl) (by decide) f_RX10_10 rfl dX10_canon_25 ?_
        refine g_get (ci := 1) (k := 1) (val := .ref (E.ad 6)) C g_us hW rfl rfl rfl (in_sid _ rfl) (by decide) f_RX10_157 rfl dX10_canon_28 ?_
        refine lv_iload_n hx hb dX10_canon_31 rfl (lv_at hl 3 rfl) ?_
        refine lv_aload_n hx hb dX10_canon_32 rfl (lv_at hl 0 rfl) ?_
        refine g_get (ci := 10) (k := 0) (val := .ref (E.ad 1)) C g_us hW rfl rfl rfl (in_sid _ rfl) (by decide) f_RX10_10 rfl dX10_canon_33 ?_
        refine g_get (ci := 1) (k := 3) (val := .int (rI S 1 3)) C g_us hW rfl rfl rfl (in_sid _ rfl) (by decide) f_RX10_221 rfl dX10_canon_36 ?_
        replace hf := bd_so hf
        obtain ⟨x4, h3, hf⟩ := hf
        refine g_callVi (ci := 5) (As := [.int v3, .int (rI S 1 3)]) (rest := []) C g_us hW hl.1 (c_X5_clashesAt l E S v3 (rI S 1 3) _ h3) rfl rfl rfl (in_sid _ rfl) k_RX10_224 rfl ⟨rfl, rfl⟩ ⟨Nat.le_of_ble_eq_true rfl, Nat.le_of_ble_eq_true rfl⟩ ⟨Nat.zero_le _, Nat.zero_le _⟩ _ rfl (Nat.le_of_ble_eq_true rfl) dX10_canon_39 (fun H locs hW => ?_)
        refine lv_if_ne (tgt := 55) hx hb dX10_canon_42 (by decide) (fun c5 => ?_) (fun c5 => ?_)
        · replace hf := iff_ hf c5
          refine lv_iinc (v := (v3 + 1)) (lv' := [(3, .int (v3 + 1)), (0, .ref (E.ad 0)), (1, .int v1), (2, .int v2)]) hx hb dX10_canon_55 hl (k := 3) rfl rfl (by decide) rfl (fun ls hl => ?_)
          refine lv_goto (tgt := 10) hx hb dX10_canon_58 (by decide) ?_
          exact ih _ _ _ _ _ hW (lv_sub hl [1, 2, 3, 0] rfl) hf kE kR
        · replace hf := ift_ hf c5
          refine lv_iload_n hx hb dX10_canon_45 rfl (lv_at hl 2 rfl) ?_
          refine lv_iload_n hx hb dX10_canon_46 rfl (lv_at hl 1 rfl) ?_
          refine lv_icmp_ne (tgt := 52) hx hb dX10_canon_47 (by decide) (fun c6 => ?_) (fun c6 => ?_)
          · replace hf := iff_ hf c6
            refine lv_iinc (v := (v2 + 1)) (lv' := [(2, .int (v2 + 1)), (0, .ref (E.ad 0)), (1, .int v1), (3, .int v3)]) hx hb dX10_canon_52 hl (k := 2) rfl rfl (by decide) rfl (fun ls hl => ?_)
            refine lv_iinc (v := (v3 + 1)) (lv' := [(3, .int (v3 + 1)), (2, .int (v2 + 1)), (0, .ref (E.ad 0)), (1, .int v1)]) hx hb dX10_canon_55 hl (k := 3) rfl rfl (by decide) rfl (fun ls hl => ?_)
            refine lv_goto (tgt := 10) hx hb dX10_canon_58 (by decide) ?_
            exact ih _ _ _ _ _ hW (lv_sub hl [2, 3, 1, 0] rfl) hf kE kR
          · replace hf := ift_ hf c6
            refine lv_iload_n hx hb dX10_canon_50 rfl (lv_at hl 3 rfl) ?_
            exact kR _ _ _ _ _ hf hW dX10_canon_51
  unfold X10_canon at hf
  refine lv_iload_n hx hb dX10_canon_0 rfl (lv_at hl 1 rfl) ?_
  refine lv_if_ge (tgt := 6) hx hb dX10_canon_1 (by decide) (fun c1 => ?_) (fun c1 => ?_)
  · replace hf := ift_ hf c1
    refine lv_iconst (v := 0) hx hb dX10_canon_6 (by decide) ?_
    refine lv_istore_n (lv' := [(2, .int 0), (0, .ref (E.ad 0)), (1, .int a1)]) hx hb dX10_canon_7 rfl hl (by decide) rfl (fun ls hl => ?_)
    refine lv_iconst (v := 1) hx hb dX10_canon_8 (by decide) ?_
    refine lv_istore_n (lv' := [(3, .int 1), (2, .int 0), (0, .ref (E.ad 0)), (1, .int a1)]) hx hb dX10_canon_9 rfl hl (by decide) rfl (fun ls hl => ?_)
    replace hf := bd_so hf
    obtain ⟨t, h7, hf⟩ := hf
    rcases t with u | x9
    · dsimp only at hf
      have J8 : ∀ (H : Heap) (locs : List Loc) (ls : Array Slot), Ww E S s H locs → lv_has ls 4 [] → W p l e rm_X10_canon s m args below meth c H locs 0 0 Q (F0 m 61 ls []) := by
        intro H locs ls hW hl
        refine lv_bipush (v := (-4)) hx hb dX10_canon_61 (by decide) ?_
        obtain rfl := so1 hf
        exact kR _ _ _ _ hW dX10_canon_63
      exact X10_canon_L10_c _ _ _ FU _ _ _ _ _ hW (lv_sub hl [2, 3, 1, 0] rfl) h7 (fun H locs ls e hW hl => by cases e; exact J8 H locs ls hW hl) (fun _ H locs pc ls e hW dd => by cases e)
    · dsimp only at hf
      refine X10_canon_L10_c _ _ _ FU _ _ _ _ _ hW (lv_sub hl [2, 3, 1, 0] rfl) h7 (fun H locs ls e hW hl => by cases e) (fun _ H locs pc ls e hW dd => ?_)
      cases e
      obtain rfl := so1 hf
      exact kR _ _ _ _ hW dd
  · replace hf := iff_ hf c1
    refine lv_iconst (v := (-1)) hx hb dX10_canon_4 (by decide) ?_
    obtain rfl := so1 hf
    exact kR _ _ _ _ hW dX10_canon_5

abbrev rm_X10_sea : Room := { frames := 1, cells := 0, slots := 0, locals := 60 }
set_option maxHeartbeats 4000000 in
set_option maxRecDepth 100000 in
theorem c_X10_sea (l : Launch) (E : En) (S : St) (a1 : Int32) (a2 : Int32) (r : Int32) (hf : X10_sea S a1 a2 = some r) : Mi l E yX10_sea cX10_sea 3 (some .int) rm_X10_sea [.ref (E.ad 0), .int a1, .int a2] S r S := by
  refine g_startI (cc := cX10_sea) (n := 3) (by decide) (Nat.le_of_ble_eq_true rfl) ?_
  intro p e s m args below meth c Q H locs C kR hW ls hl
  obtain ⟨⟨hx, hb, hml, hown, hts⟩, hK, hT⟩ := id C
  have hl : lv_has ls 3 [(0, .ref (E.ad 0)), (1, .int a1), (2, .int a2)] := hl
  unfold X10_sea at hf
  refine lv_iload_n hx hb dX10_sea_0 rfl (lv_at hl 1 rfl) ?_
  refine lv_iconst (v := 1) hx hb dX10_sea_1 (by decide) ?_
  refine lv_icmp_lt (tgt := 22) hx hb dX10_sea_2 (by decide) (fun c1 => ?_) (fun c1 => ?_)
  · replace hf := ift_ hf c1
    refine lv_iconst (v := (-1)) hx hb dX10_sea_22 (by decide) ?_
    obtain rfl := so1 hf
    exact kR _ _ _ _ hW dX10_sea_23
  · replace hf := iff_ hf c1
    refine lv_iload_n hx hb dX10_sea_5 rfl (lv_at hl 1 rfl) ?_
    refine lv_bipush (v := 63) hx hb dX10_sea_6 (by decide) ?_
    refine lv_icmp_gt (tgt := 22) hx hb dX10_sea_8 (by decide) (fun c2 => ?_) (fun c2 => ?_)
    · replace hf := ift_ hf c2
      refine lv_iconst (v := (-1)) hx hb dX10_sea_22 (by decide) ?_
      obtain rfl := so1 hf
      exact kR _ _ _ _ hW dX10_sea_23
    · replace hf := iff_ hf c2
      refine lv_iload_n hx hb dX10_sea_11 rfl (lv_at hl 2 rfl) ?_
      refine lv_iconst (v := 1) hx hb dX10_sea_12 (by decide) ?_
      refine lv_icmp_lt (tgt := 22) hx hb dX10_sea_13 (by decide) (fun c3 => ?_) (fun c3 => ?_)
      · replace hf := ift_ hf c3
        refine lv_iconst (v := (-1)) hx hb dX10_sea_22 (by decide) ?_
        obtain rfl := so1 hf
        exact kR _ _ _ _ hW dX10_sea_23
      · replace hf := iff_ hf c3
        refine lv_iload_n hx hb dX10_sea_16 rfl (lv_at hl 2 rfl) ?_
        refine lv_ldc hx hb hown (hts _ (g_us _ q_RX10_227)) dX10_sea_17 ?_
        refine lv_icmp_le (tgt := 24) hx hb dX10_sea_19 (by decide) (fun c4 => ?_) (fun c4 => ?_)
        · replace hf := ift_ hf c4
          refine lv_iload_n hx hb dX10_sea_24 rfl (lv_at hl 2 rfl) ?_
          refine lv_iload_n hx hb dX10_sea_25 rfl (lv_at hl 1 rfl) ?_
          replace hf := bd_so hf
          obtain ⟨x5, h6, hf⟩ := hf
          refine g_irem C h6 dX10_sea_26 ?_
          refine lv_if_ne (tgt := 39) hx hb dX10_sea_27 (by decide) (fun c7 => ?_) (fun c7 => ?_)
          · replace hf := iff_ hf c7
            refine lv_bipush (v := (-4)) hx hb dX10_sea_39 (by decide) ?_
            refine lv_goto (tgt := 47) hx hb dX10_sea_41 (by decide) ?_
            obtain rfl := so1 hf
            exact kR _ _ _ _ hW dX10_sea_47
          · replace hf := ift_ hf c7
            refine lv_iload_n hx hb dX10_sea_30 rfl (lv_at hl 2 rfl) ?_
            refine lv_iload_n hx hb dX10_sea_31 rfl (lv_at hl 1 rfl) ?_
            replace hf := bd_so hf
            obtain ⟨x8, h9, hf⟩ := hf
            refine g_idiv C h9 dX10_sea_32 ?_
            refine lv_sipush (v := 2000) hx hb dX10_sea_33 (by decide) ?_
            refine lv_icmp_le (tgt := 44) hx hb dX10_sea_36 (by decide) (fun c10 => ?_) (fun c10 => ?_)
            · replace hf := ift_ hf c10
              refine lv_iload_n hx hb dX10_sea_44 rfl (lv_at hl 2 rfl) ?_
              refine lv_iload_n hx hb dX10_sea_45 rfl (lv_at hl 1 rfl) ?_
              replace hf := bd_so hf
              obtain ⟨x11, h12, hf⟩ := hf
              refine g_idiv C h12 dX10_sea_46 ?_
              obtain rfl := so1 hf
              exact kR _ _ _ _ hW dX10_sea_47
            · replace hf := iff_ hf c10
              refine lv_bipush (v := (-4)) hx hb dX10_sea_39 (by decide) ?_
              refine lv_goto (tgt := 47) hx hb dX10_sea_41 (by decide) ?_
              obtain rfl := so1 hf
              exact kR _ _ _ _ hW dX10_sea_47
        · replace hf := iff_ hf c4
          refine lv_iconst (v := (-1)) hx hb dX10_sea_22 (by decide) ?_
          obtain rfl := so1 hf
          exact kR _ _ _ _ hW dX10_sea_23

abbrev rm_X10_lose : Room := { frames := 3, cells := 0, slots := 0, locals := 109 }
set_option maxHeartbeats 4000000 in
set_option maxRecDepth 100000 in
theorem c_X10_lose (l : Launch) (E : En) (S : St) (a1 : Int32) (a2 : Int32) (a3 : Int32) (a4 : Int32) (r : Int32) (S1 : St) (hf : X10_lose S a1 a2 a3 a4 = some (r, S1)) : Mi l E yX10_lose cX10_lose 5 (some .int) rm_X10_lose [.ref (E.ad 0), .int a1, .int a2, .int a3, .int a4] S r S1 := by
  refine g_startI (cc := cX10_lose) (n := 5) (by decide) (Nat.le_of_ble_eq_true rfl) ?_
  intro p e s m args below meth c Q H locs C kR hW ls hl
  obtain ⟨⟨hx, hb, hml, hown, hts⟩, hK, hT⟩ := id C
  have hl : lv_has ls 5 [(0, .ref (E.ad 0)), (1, .int a1), (2, .int a2), (3, .int a3), (4, .int a4)] := hl
  unfold X10_lose at hf
  refine lv_iload_n hx hb dX10_lose_0 rfl (lv_at hl 1 rfl) ?_
  refine lv_iconst (v := 1) hx hb dX10_lose_1 (by decide) ?_
  refine lv_icmp_lt (tgt := 26) hx hb dX10_lose_2 (by decide) (fun c1 => ?_) (fun c1 => ?_)
  · replace hf := ift_ hf c1
    refine lv_iconst (v := (-1)) hx hb dX10_lose_26 (by decide) ?_
    obtain ⟨rfl, rfl⟩ := so2 hf
    exact kR _ _ _ _ hW dX10_lose_27
  · replace hf := iff_ hf c1
    refine lv_iload_n hx hb dX10_lose_5 rfl (lv_at hl 1 rfl) ?_
    refine lv_bipush (v := 7) hx hb dX10_lose_6 (by decide) ?_
    refine lv_icmp_gt (tgt := 26) hx hb dX10_lose_8 (by decide) (fun c2 => ?_) (fun c2 => ?_)
    · replace hf := ift_ hf c2
      refine lv_iconst (v := (-1)) hx hb dX10_lose_26 (by decide) ?_
      obtain ⟨rfl, rfl⟩ := so2 hf
      exact kR _ _ _ _ hW dX10_lose_27
    · replace hf := iff_ hf c2
      refine lv_aload_n hx hb dX10_lose_11 rfl (lv_at hl 0 rfl) ?_
      refine g_get (ci := 10) (k := 0) (val := .ref (E.ad 1)) C g_us hW rfl rfl rfl (in_sid _ rfl) (by decide) f_RX10_10 rfl dX10_lose_12 ?_
      refine g_get (ci := 1) (k := 0) (val := .ref (E.ad 2)) C g_us hW rfl rfl rfl (in_sid _ rfl) (by decide) f_RX10_62 rfl dX10_lose_15 ?_
      refine lv_iload_n hx hb dX10_lose_18 rfl (lv_at hl 2 rfl) ?_
      refine lv_iload_n hx hb dX10_lose_19 rfl (lv_at hl 3 rfl) ?_
      replace hf := bd_so hf
      obtain ⟨x4, h3, hf⟩ := hf
      refine g_callVi (ci := 6) (As := [.int a2, .int a3]) (rest := []) C g_us hW hl.1 (c_X6_hasTwo l E S a2 a3 _ h3) rfl rfl rfl (in_sid _ rfl) k_RX10_88 rfl ⟨rfl, rfl⟩ ⟨Nat.le_of_ble_eq_true rfl, Nat.le_of_ble_eq_true rfl⟩ ⟨Nat.zero_le _, Nat.zero_le _⟩ _ rfl (Nat.le_of_ble_eq_true rfl) dX10_lose_20 (fun H locs hW => ?_)
      refine lv_if_ne (tgt := 28) hx hb dX10_lose_23 (by decide) (fun c5 => ?_) (fun c5 => ?_)
      · replace hf := iff_ hf c5
        refine lv_aload_n hx hb dX10_lose_28 rfl (lv_at hl 0 rfl) ?_
        refine g_get (ci := 10) (k := 0) (val := .ref (E.ad 1)) C g_us hW rfl rfl rfl (in_sid _ rfl) (by decide) f_RX10_10 rfl dX10_lose_29 ?_
        refine g_get (ci := 1) (k := 0) (val := .ref (E.ad 2)) C g_us hW rfl rfl rfl (in_sid _ rfl) (by decide) f_RX10_62 rfl dX10_lose_32 ?_
        refine lv_iload_n hx hb dX10_lose_35 rfl (lv_at hl 1 rfl) ?_
        refine lv_iload_n hx hb dX10_lose_36 rfl (lv_at hl 2 rfl) ?_
        refine lv_iload_n hx hb dX10_lose_37 rfl (lv_at hl 3 rfl) ?_
        refine lv_iload hx hb dX10_lose_38 (lv_at hl 4 rfl) ?_
        replace hf := bd_so hf
        obtain ⟨⟨x7, S8⟩, h6, hf⟩ := hf
        dsimp only at hf
        refine g_callVi (ci := 6) (As := [.int a1, .int a2, .int a3, .int a4]) (rest := []) C g_us hW hl.1 (c_X6_loseWord l E S a1 a2 a3 a4 _ _ h6) rfl rfl rfl (in_sid _ rfl) k_RX10_228 rfl ⟨rfl, rfl⟩ ⟨Nat.le_of_ble_eq_true rfl, Nat.le_of_ble_eq_true rfl⟩ ⟨Nat.zero_le _, Nat.zero_le _⟩ _ rfl (Nat.le_of_ble_eq_true rfl) dX10_lose_40 (fun H locs hW => ?_)
        obtain ⟨rfl, rfl⟩ := so2 hf
        exact kR _ _ _ _ hW dX10_lose_43
      · replace hf := ift_ hf c5
        refine lv_iconst (v := (-1)) hx hb dX10_lose_26 (by decide) ?_
        obtain ⟨rfl, rfl⟩ := so2 hf
        exact kR _ _ _ _ hW dX10_lose_27

abbrev rm_X10_goes : Room := { frames := 5, cells := 0, slots := 0, locals := 154 }
set_option maxHeartbeats 4000000 in
set_option maxRecDepth 100000 in
theorem c_X10_goes (l : Launch) (E : En) (S : St) (a1 : Int32) (a2 : Int32) (r : Int32) (S1 : St) (hf : X10_goes S a1 a2 = some (r, S1)) : Mi l E yX10_goes cX10_goes 4 (some .int) rm_X10_goes [.ref (E.ad 0), .int a1, .int a2] S r S1 := by
  refine g_startI (cc := cX10_goes) (n := 4) (by decide) (Nat.le_of_ble_eq_true rfl) ?_
  intro p e s m args below meth c Q H locs C kR hW ls hl
  obtain ⟨⟨hx, hb, hml, hown, hts⟩, hK, hT⟩ := id C
  have hl : lv_has ls 4 [(0, .ref (E.ad 0)), (1, .int a1), (2, .int a2)] := hl
  unfold X10_goes at hf
  refine lv_aload_n hx hb dX10_goes_0 rfl (lv_at hl 0 rfl) ?_
  refine g_get (ci := 10) (k := 0) (val := .ref (E.ad 1)) C g_us hW rfl rfl rfl (in_sid _ rfl) (by decide) f_RX10_10 rfl dX10_goes_1 ?_
  refine g_get (ci := 1) (k := 0) (val := .ref (E.ad 2)) C g_us hW rfl rfl rfl (in_sid _ rfl) (by decide) f_RX10_62 rfl dX10_goes_4 ?_
  refine lv_iload_n hx hb dX10_goes_7 rfl (lv_at hl 1 rfl) ?_
  replace hf := bd_so hf
  obtain ⟨x2, h1, hf⟩ := hf
  refine g_callVi (ci := 6) (As := [.int a1]) (rest := []) C g_us hW hl.1 (c_X6_has l E S a1 _ h1) rfl rfl rfl (in_sid _ rfl) k_RX10_76 rfl ⟨rfl, rfl⟩ ⟨Nat.le_of_ble_eq_true rfl, Nat.le_of_ble_eq_true rfl⟩ ⟨Nat.zero_le _, Nat.zero_le _⟩ _ rfl (Nat.le_of_ble_eq_true rfl) dX10_goes_8 (fun H locs hW => ?_)
  refine lv_if_eq (tgt := 24) hx hb dX10_goes_11 (by decide) (fun c3 => ?_) (fun c3 => ?_)
  · replace hf := ift_ hf c3
    refine lv_iconst (v := (-1)) hx hb dX10_goes_24 (by decide) ?_
    obtain ⟨rfl, rfl⟩ := so2 hf
    exact kR _ _ _ _ hW dX10_goes_25
  · replace hf := iff_ hf c3
    refine lv_iload_n hx hb dX10_goes_14 rfl (lv_at hl 2 rfl) ?_
    refine lv_if_lt (tgt := 24) hx hb dX10_goes_15 (by decide) (fun c4 => ?_) (fun c4 => ?_)
    · replace hf := ift_ hf c4
      refine lv_iconst (v := (-1)) hx hb dX10_goes_24 (by decide) ?_
      obtain ⟨rfl, rfl⟩ := so2 hf
      exact kR _ _ _ _ hW dX10_goes_25
    · replace hf := iff_ hf c4
      refine lv_iload_n hx hb dX10_goes_18 rfl (lv_at hl 2 rfl) ?_
      refine lv_bipush (v := 7) hx hb dX10_goes_19 (by decide) ?_
      refine lv_icmp_le (tgt := 26) hx hb dX10_goes_21 (by decide) (fun c5 => ?_) (fun c5 => ?_)
      · replace hf := ift_ hf c5
        refine lv_aload_n hx hb dX10_goes_26 rfl (lv_at hl 0 rfl) ?_
        refine g_get (ci := 10) (k := 0) (val := .ref (E.ad 1)) C g_us hW rfl rfl rfl (in_sid _ rfl) (by decide) f_RX10_10 rfl dX10_goes_27 ?_
        refine g_get (ci := 1) (k := 0) (val := .ref (E.ad 2)) C g_us hW rfl rfl rfl (in_sid _ rfl) (by decide) f_RX10_62 rfl dX10_goes_30 ?_
        replace hf := bd_so hf
        obtain ⟨x7, h6, hf⟩ := hf
        refine g_callVi (ci := 6) (As := []) (rest := []) C g_us hW hl.1 (c_X6_uncut l E S  _ h6) rfl rfl rfl (in_sid _ rfl) k_RX10_232 rfl ⟨rfl, rfl⟩ ⟨Nat.le_of_ble_eq_true rfl, Nat.le_of_ble_eq_true rfl⟩ ⟨Nat.zero_le _, Nat.zero_le _⟩ _ rfl (Nat.le_of_ble_eq_true rfl) dX10_goes_33 (fun H locs hW => ?_)
        refine lv_istore_n (lv' := [(3, .int x7), (0, .ref (E.ad 0)), (1, .int a1), (2, .int a2)]) hx hb dX10_goes_36 rfl hl (by decide) rfl (fun ls hl => ?_)
        refine lv_aload_n hx hb dX10_goes_37 rfl (lv_at hl 1 rfl) ?_
        refine g_get (ci := 10) (k := 6) (val := .ref (E.ad 32)) C g_us hW rfl rfl rfl (in_sid _ rfl) (by decide) f_RX10_51 rfl dX10_goes_38 ?_
        refine lv_aload_n hx hb dX10_goes_41 rfl (lv_at hl 1 rfl) ?_
        refine g_get (ci := 10) (k := 0) (val := .ref (E.ad 1)) C g_us hW rfl rfl rfl (in_sid _ rfl) (by decide) f_RX10_10 rfl dX10_goes_42 ?_
        refine g_get (ci := 1) (k := 0) (val := .ref (E.ad 2)) C g_us hW rfl rfl rfl (in_sid _ rfl) (by decide) f_RX10_62 rfl dX10_goes_45 ?_
        refine lv_iload_n hx hb dX10_goes_48 rfl (lv_at hl 3 rfl) ?_
        replace hf := bd_so hf
        obtain ⟨S9, h8, hf⟩ := hf
        refine g_callVv (ci := 9) (As := [.ref (E.ad 2), .int a2]) (rest := []) C g_us hW hl.1 (c_X9_tellFor l E S a2 _ h8) rfl rfl rfl (in_sid _ rfl) k_RX10_235 rfl ⟨rfl, rfl⟩ ⟨Nat.le_of_ble_eq_true rfl, Nat.le_of_ble_eq_true rfl⟩ ⟨Nat.zero_le _, Nat.zero_le _⟩ _ rfl (Nat.le_of_ble_eq_true rfl) dX10_goes_49 (fun H locs hW => ?_)
        refine lv_aload_n hx hb dX10_goes_52 rfl (lv_at hl 1 rfl) ?_
        refine g_get (ci := 10) (k := 0) (val := .ref (E.ad 1)) C g_us hW rfl rfl rfl (in_sid _ rfl) (by decide) f_RX10_10 rfl dX10_goes_53 ?_
        refine g_get (ci := 1) (k := 0) (val := .ref (E.ad 2)) C g_us hW rfl rfl rfl (in_sid _ rfl) (by decide) f_RX10_62 rfl dX10_goes_56 ?_
        refine lv_iload_n hx hb dX10_goes_59 rfl (lv_at hl 2 rfl) ?_
        replace hf := bd_so hf
        obtain ⟨x11, h10, hf⟩ := hf
        refine g_callVi (ci := 6) (As := [.int a1]) (rest := []) C g_us hW hl.1 (c_X6_isCut l E S9 a1 _ h10) rfl rfl rfl (in_sid _ rfl) k_RX10_176 rfl ⟨rfl, rfl⟩ ⟨Nat.le_of_ble_eq_true rfl, Nat.le_of_ble_eq_true rfl⟩ ⟨Nat.zero_le _, Nat.zero_le _⟩ _ rfl (Nat.le_of_ble_eq_true rfl) dX10_goes_60 (fun H locs hW => ?_)
        refine lv_if_ne (tgt := 81) hx hb dX10_goes_63 (by decide) (fun c12 => ?_) (fun c12 => ?_)
        · replace hf := iff_ hf c12
          refine lv_bipush (v := (-4)) hx hb dX10_goes_81 (by decide) ?_
          obtain ⟨rfl, rfl⟩ := so2 hf
          exact kR _ _ _ _ hW dX10_goes_83
        · replace hf := ift_ hf c12
          refine lv_iload_n hx hb dX10_goes_66 rfl (lv_at hl 0 rfl) ?_
          refine lv_aload_n hx hb dX10_goes_67 rfl (lv_at hl 1 rfl) ?_
          refine g_get (ci := 10) (k := 6) (val := .ref (E.ad 32)) C g_us hW rfl rfl rfl (in_sid _ rfl) (by decide) f_RX10_51 rfl dX10_goes_68 ?_
          refine lv_iload_n hx hb dX10_goes_71 rfl (lv_at hl 2 rfl) ?_
          replace hf := bd_so hf
          obtain ⟨x14, h13, hf⟩ := hf
          refine g_callVi (ci := 9) (As := [.int a1]) (rest := [.int x7]) C g_us hW hl.1 (c_X9_knownTo l E S9 a1 _ h13) rfl rfl rfl (in_sid _ rfl) k_RX10_238 rfl ⟨rfl, rfl⟩ ⟨Nat.le_of_ble_eq_true rfl, Nat.le_of_ble_eq_true rfl⟩ ⟨Nat.zero_le _, Nat.zero_le _⟩ _ rfl (Nat.le_of_ble_eq_true rfl) dX10_goes_72 (fun H locs hW => ?_)
          refine lv_iconst (v := (-1)) hx hb dX10_goes_75 (by decide) ?_
          refine lv_ixor hx hb dX10_goes_76 ?_
          refine lv_iand hx hb dX10_goes_77 ?_
          refine lv_if_eq (tgt := 84) hx hb dX10_goes_78 (by decide) (fun c15 => ?_) (fun c15 => ?_)
          · replace hf := ift_ hf c15
            refine lv_aload_n hx hb dX10_goes_84 rfl (lv_at hl 1 rfl) ?_
            refine g_get (ci := 10) (k := 0) (val := .ref (E.ad 1)) C g_us hW rfl rfl rfl (in_sid _ rfl) (by decide) f_RX10_10 rfl dX10_goes_85 ?_
            refine g_get (ci := 1) (k := 1) (val := .ref (E.ad 6)) C g_us hW rfl rfl rfl (in_sid _ rfl) (by decide) f_RX10_157 rfl dX10_goes_88 ?_
            refine lv_aload_n hx hb dX10_goes_91 rfl (lv_at hl 1 rfl) ?_
            refine g_get (ci := 10) (k := 0) (val := .ref (E.ad 1)) C g_us hW rfl rfl rfl (in_sid _ rfl) (by decide) f_RX10_10 rfl dX10_goes_92 ?_
            refine g_get (ci := 1) (k := 0) (val := .ref (E.ad 2)) C g_us hW rfl rfl rfl (in_sid _ rfl) (by decide) f_RX10_62 rfl dX10_goes_95 ?_
            refine lv_iload_n hx hb dX10_goes_98 rfl (lv_at hl 0 rfl) ?_
            replace hf := bd_so hf
            obtain ⟨x17, h16, hf⟩ := hf
            refine g_callVi (ci := 6) (As := [.int x7]) (rest := [.ref (E.ad 6)]) C g_us hW hl.1 (c_X6_leastBeat l E S9 x7 _ h16) rfl rfl rfl (in_sid _ rfl) k_RX10_241 rfl ⟨rfl, rfl⟩ ⟨Nat.le_of_ble_eq_true rfl, Nat.le_of_ble_eq_true rfl⟩ ⟨Nat.zero_le _, Nat.zero_le _⟩ _ rfl (Nat.le_of_ble_eq_true rfl) dX10_goes_99 (fun H locs hW => ?_)
            replace hf := bd_so hf
            obtain ⟨x19, h18, hf⟩ := hf
            refine g_callVi (ci := 5) (As := [.int x17]) (rest := []) C g_us hW hl.1 (c_X5_behindLastBreath l E S9 x17 _ h18) rfl rfl rfl (in_sid _ rfl) k_RX10_244 rfl ⟨rfl, rfl⟩ ⟨Nat.le_of_ble_eq_true rfl, Nat.le_of_ble_eq_true rfl⟩ ⟨Nat.zero_le _, Nat.zero_le _⟩ _ rfl (Nat.le_of_ble_eq_true rfl) dX10_goes_102 (fun H locs hW => ?_)
            obtain ⟨rfl, rfl⟩ := so2 hf
            exact kR _ _ _ _ hW dX10_goes_105
          · replace hf := iff_ hf c15
            refine lv_bipush (v := (-4)) hx hb dX10_goes_81 (by decide) ?_
            obtain ⟨rfl, rfl⟩ := so2 hf
            exact kR _ _ _ _ hW dX10_goes_83
      · replace hf := iff_ hf c5
        refine lv_iconst (v := (-1)) hx hb dX10_goes_24 (by decide) ?_
        obtain ⟨rfl, rfl⟩ := so2 hf
        exact kR _ _ _ _ hW dX10_goes_25

abbrev rm_X10_knows : Room := { frames := 5, cells := 0, slots := 0, locals := 154 }
set_option maxHeartbeats 4000000 in
set_option maxRecDepth 100000 in
theorem c_X10_knows (l : Launch) (E : En) (S : St) (a1 : Int32) (a2 : Int32) (r : Int32) (S1 : St) (hf : X10_knows S a1 a2 = some (r, S1)) : Mi l E yX10_knows cX10_knows 3 (some .int) rm_X10_knows [.ref (E.ad 0), .int a1, .int a2] S r S1 := by
  refine g_startI (cc := cX10_knows) (n := 3) (by decide) (Nat.le_of_ble_eq_true rfl) ?_
  intro p e s m args below meth c Q H locs C kR hW ls hl
  obtain ⟨⟨hx, hb, hml, hown, hts⟩, hK, hT⟩ := id C
  have hl : lv_has ls 3 [(0, .ref (E.ad 0)), (1, .int a1), (2, .int a2)] := hl
  unfold X10_knows at hf
  refine lv_aload_n hx hb dX10_knows_0 rfl (lv_at hl 0 rfl) ?_
  refine g_get (ci := 10) (k := 0) (val := .ref (E.ad 1)) C g_us hW rfl rfl rfl (in_sid _ rfl) (by decide) f_RX10_10 rfl dX10_knows_1 ?_
  refine g_get (ci := 1) (k := 0) (val := .ref (E.ad 2)) C g_us hW rfl rfl rfl (in_sid _ rfl) (by decide) f_RX10_62 rfl dX10_knows_4 ?_
  refine lv_iload_n hx hb dX10_knows_7 rfl (lv_at hl 1 rfl) ?_
  replace hf := bd_so hf
  obtain ⟨x2, h1, hf⟩ := hf
  refine g_callVi (ci := 6) (As := [.int a1]) (rest := []) C g_us hW hl.1 (c_X6_has l E S a1 _ h1) rfl rfl rfl (in_sid _ rfl) k_RX10_76 rfl ⟨rfl, rfl⟩ ⟨Nat.le_of_ble_eq_true rfl, Nat.le_of_ble_eq_true rfl⟩ ⟨Nat.zero_le _, Nat.zero_le _⟩ _ rfl (Nat.le_of_ble_eq_true rfl) dX10_knows_8 (fun H locs hW => ?_)
  refine lv_if_eq (tgt := 24) hx hb dX10_knows_11 (by decide) (fun c3 => ?_) (fun c3 => ?_)
  · replace hf := ift_ hf c3
    refine lv_iconst (v := (-1)) hx hb dX10_knows_24 (by decide) ?_
    obtain ⟨rfl, rfl⟩ := so2 hf
    exact kR _ _ _ _ hW dX10_knows_25
  · replace hf := iff_ hf c3
    refine lv_iload_n hx hb dX10_knows_14 rfl (lv_at hl 2 rfl) ?_
    refine lv_if_lt (tgt := 24) hx hb dX10_knows_15 (by decide) (fun c4 => ?_) (fun c4 => ?_)
    · replace hf := ift_ hf c4
      refine lv_iconst (v := (-1)) hx hb dX10_knows_24 (by decide) ?_
      obtain ⟨rfl, rfl⟩ := so2 hf
      exact kR _ _ _ _ hW dX10_knows_25
    · replace hf := iff_ hf c4
      refine lv_iload_n hx hb dX10_knows_18 rfl (lv_at hl 2 rfl) ?_
      refine lv_bipush (v := 7) hx hb dX10_knows_19 (by decide) ?_
      refine lv_icmp_le (tgt := 26) hx hb dX10_knows_21 (by decide) (fun c5 => ?_) (fun c5 => ?_)
      · replace hf := ift_ hf c5
        refine lv_aload_n hx hb dX10_knows_26 rfl (lv_at hl 0 rfl) ?_
        refine g_get (ci := 10) (k := 6) (val := .ref (E.ad 32)) C g_us hW rfl rfl rfl (in_sid _ rfl) (by decide) f_RX10_51 rfl dX10_knows_27 ?_
        refine lv_aload_n hx hb dX10_knows_30 rfl (lv_at hl 0 rfl) ?_
        refine g_get (ci := 10) (k := 0) (val := .ref (E.ad 1)) C g_us hW rfl rfl rfl (in_sid _ rfl) (by decide) f_RX10_10 rfl dX10_knows_31 ?_
        refine g_get (ci := 1) (k := 0) (val := .ref (E.ad 2)) C g_us hW rfl rfl rfl (in_sid _ rfl) (by decide) f_RX10_62 rfl dX10_knows_34 ?_
        refine lv_iload_n hx hb dX10_knows_37 rfl (lv_at hl 2 rfl) ?_
        replace hf := bd_so hf
        obtain ⟨S7, h6, hf⟩ := hf
        refine g_callVv (ci := 9) (As := [.ref (E.ad 2), .int a2]) (rest := []) C g_us hW hl.1 (c_X9_tellFor l E S a2 _ h6) rfl rfl rfl (in_sid _ rfl) k_RX10_235 rfl ⟨rfl, rfl⟩ ⟨Nat.le_of_ble_eq_true rfl, Nat.le_of_ble_eq_true rfl⟩ ⟨Nat.zero_le _, Nat.zero_le _⟩ _ rfl (Nat.le_of_ble_eq_true rfl) dX10_knows_38 (fun H locs hW => ?_)
        refine lv_aload_n hx hb dX10_knows_41 rfl (lv_at hl 0 rfl) ?_
        refine g_get (ci := 10) (k := 6) (val := .ref (E.ad 32)) C g_us hW rfl rfl rfl (in_sid _ rfl) (by decide) f_RX10_51 rfl dX10_knows_42 ?_
        refine lv_iload_n hx hb dX10_knows_45 rfl (lv_at hl 1 rfl) ?_
        replace hf := bd_so hf
        obtain ⟨x9, h8, hf⟩ := hf
        refine g_callVi (ci := 9) (As := [.int a1]) (rest := []) C g_us hW hl.1 (c_X9_knownTo l E S7 a1 _ h8) rfl rfl rfl (in_sid _ rfl) k_RX10_238 rfl ⟨rfl, rfl⟩ ⟨Nat.le_of_ble_eq_true rfl, Nat.le_of_ble_eq_true rfl⟩ ⟨Nat.zero_le _, Nat.zero_le _⟩ _ rfl (Nat.le_of_ble_eq_true rfl) dX10_knows_46 (fun H locs hW => ?_)
        obtain ⟨rfl, rfl⟩ := so2 hf
        exact kR _ _ _ _ hW dX10_knows_49
      · replace hf := iff_ hf c5
        refine lv_iconst (v := (-1)) hx hb dX10_knows_24 (by decide) ?_
        obtain ⟨rfl, rfl⟩ := so2 hf
        exact kR _ _ _ _ hW dX10_knows_25

abbrev rm_X10_loss : Room := { frames := 2, cells := 0, slots := 0, locals := 82 }
set_option maxHeartbeats 4000000 in
set_option maxRecDepth 100000 in
theorem c_X10_loss (l : Launch) (E : En) (S : St) (a1 : Int64) (r : Int32) (S1 : St) (hf : X10_loss S a1 = some (r, S1)) : Mi l E yX10_loss cX10_loss 3 (some .int) rm_X10_loss [.ref (E.ad 0), .long a1] S r S1 := by
  refine g_startI (cc := cX10_loss) (n := 3) (by decide) (Nat.le_of_ble_eq_true rfl) ?_
  intro p e s m args below meth c Q H locs C kR hW ls hl
  obtain ⟨⟨hx, hb, hml, hown, hts⟩, hK, hT⟩ := id C
  have hl : lv_has ls 3 [(0, .ref (E.ad 0)), (1, .long a1)] := hl
  unfold X10_loss at hf
  refine lv_lload_n hx hb dX10_loss_0 rfl (lv_at hl 1 rfl) ?_
  refine lv_ldc2 hx hb hown (hts _ (g_us _ q_RX10_247)) dX10_loss_1 ?_
  refine lv_land hx hb dX10_loss_4 ?_
  refine lv_lconst (v := 0) hx hb dX10_loss_5 (by decide) ?_
  refine W.lcmp hx hb dX10_loss_6 ?_
  refine lv_if_eq (tgt := 12) hx hb dX10_loss_7 (by decide) (fun c1 => ?_) (fun c1 => ?_)
  · replace hf := ift_ hf c1
    refine lv_aload_n hx hb dX10_loss_12 rfl (lv_at hl 0 rfl) ?_
    refine g_get (ci := 10) (k := 0) (val := .ref (E.ad 1)) C g_us hW rfl rfl rfl (in_sid _ rfl) (by decide) f_RX10_10 rfl dX10_loss_13 ?_
    refine g_get (ci := 1) (k := 2) (val := .ref (E.ad 8)) C g_us hW rfl rfl rfl (in_sid _ rfl) (by decide) f_RX10_169 rfl dX10_loss_16 ?_
    refine g_get (ci := 3) (k := 0) (val := .int (rI S 8 0)) C g_us hW rfl rfl rfl (in_sid _ rfl) (by decide) f_RX10_173 rfl dX10_loss_19 ?_
    refine lv_bipush (v := 8) hx hb dX10_loss_22 (by decide) ?_
    refine lv_icmp_ne (tgt := 32) hx hb dX10_loss_24 (by decide) (fun c2 => ?_) (fun c2 => ?_)
    · replace hf := iff_ hf c2
      refine lv_aload_n hx hb dX10_loss_32 rfl (lv_at hl 0 rfl) ?_
      refine g_get (ci := 10) (k := 0) (val := .ref (E.ad 1)) C g_us hW rfl rfl rfl (in_sid _ rfl) (by decide) f_RX10_10 rfl dX10_loss_33 ?_
      refine g_get (ci := 1) (k := 2) (val := .ref (E.ad 8)) C g_us hW rfl rfl rfl (in_sid _ rfl) (by decide) f_RX10_169 rfl dX10_loss_36 ?_
      refine lv_lload_n hx hb dX10_loss_39 rfl (lv_at hl 1 rfl) ?_
      replace hf := bd_so hf
      obtain ⟨⟨x4, S5⟩, h3, hf⟩ := hf
      dsimp only at hf
      refine g_callVi (ci := 3) (As := [.long a1]) (rest := []) C g_us hW hl.1 (c_X3_add l E S a1 _ _ h3) rfl rfl rfl (in_sid _ rfl) k_RX10_249 rfl ⟨rfl, rfl⟩ ⟨Nat.le_of_ble_eq_true rfl, Nat.le_of_ble_eq_true rfl⟩ ⟨Nat.zero_le _, Nat.zero_le _⟩ _ rfl (Nat.le_of_ble_eq_true rfl) dX10_loss_40 (fun H locs hW => ?_)
      obtain ⟨rfl, rfl⟩ := so2 hf
      exact kR _ _ _ _ hW dX10_loss_43
    · replace hf := ift_ hf c2
      refine lv_bipush (v := (-3)) hx hb dX10_loss_27 (by decide) ?_
      refine lv_goto (tgt := 43) hx hb dX10_loss_29 (by decide) ?_
      obtain ⟨rfl, rfl⟩ := so2 hf
      exact kR _ _ _ _ hW dX10_loss_43
  · replace hf := iff_ hf c1
    refine lv_iconst (v := (-1)) hx hb dX10_loss_10 (by decide) ?_
    obtain ⟨rfl, rfl⟩ := so2 hf
    exact kR _ _ _ _ hW dX10_loss_11

abbrev rm_X10_lost : Room := { frames := 3, cells := 0, slots := 0, locals := 108 }
set_option maxHeartbeats 4000000 in
set_option maxRecDepth 100000 in
theorem c_X10_lost (l : Launch) (E : En) (S : St) (a1 : Int32) (a2 : Int32) (r : Int32) (hf : X10_lost S a1 a2 = some r) : Mi l E yX10_lost cX10_lost 3 (some .int) rm_X10_lost [.ref (E.ad 0), .int a1, .int a2] S r S := by
  refine g_startI (cc := cX10_lost) (n := 3) (by decide) (Nat.le_of_ble_eq_true rfl) ?_
  intro p e s m args below meth c Q H locs C kR hW ls hl
  obtain ⟨⟨hx, hb, hml, hown, hts⟩, hK, hT⟩ := id C
  have hl : lv_has ls 3 [(0, .ref (E.ad 0)), (1, .int a1), (2, .int a2)] := hl
  unfold X10_lost at hf
  refine lv_iload_n hx hb dX10_lost_0 rfl (lv_at hl 1 rfl) ?_
  refine lv_if_lt (tgt := 29) hx hb dX10_lost_1 (by decide) (fun c1 => ?_) (fun c1 => ?_)
  · replace hf := ift_ hf c1
    refine lv_iconst (v := (-1)) hx hb dX10_lost_29 (by decide) ?_
    obtain rfl := so1 hf
    exact kR _ _ _ _ hW dX10_lost_30
  · replace hf := iff_ hf c1
    refine lv_iload_n hx hb dX10_lost_4 rfl (lv_at hl 1 rfl) ?_
    refine lv_aload_n hx hb dX10_lost_5 rfl (lv_at hl 0 rfl) ?_
    refine g_get (ci := 10) (k := 0) (val := .ref (E.ad 1)) C g_us hW rfl rfl rfl (in_sid _ rfl) (by decide) f_RX10_10 rfl dX10_lost_6 ?_
    refine g_get (ci := 1) (k := 2) (val := .ref (E.ad 8)) C g_us hW rfl rfl rfl (in_sid _ rfl) (by decide) f_RX10_169 rfl dX10_lost_9 ?_
    refine g_get (ci := 3) (k := 0) (val := .int (rI S 8 0)) C g_us hW rfl rfl rfl (in_sid _ rfl) (by decide) f_RX10_173 rfl dX10_lost_12 ?_
    refine lv_icmp_ge (tgt := 29) hx hb dX10_lost_15 (by decide) (fun c2 => ?_) (fun c2 => ?_)
    · replace hf := ift_ hf c2
      refine lv_iconst (v := (-1)) hx hb dX10_lost_29 (by decide) ?_
      obtain rfl := so1 hf
      exact kR _ _ _ _ hW dX10_lost_30
    · replace hf := iff_ hf c2
      refine lv_iload_n hx hb dX10_lost_18 rfl (lv_at hl 2 rfl) ?_
      refine lv_iconst (v := 1) hx hb dX10_lost_19 (by decide) ?_
      refine lv_icmp_lt (tgt := 29) hx hb dX10_lost_20 (by decide) (fun c3 => ?_) (fun c3 => ?_)
      · replace hf := ift_ hf c3
        refine lv_iconst (v := (-1)) hx hb dX10_lost_29 (by decide) ?_
        obtain rfl := so1 hf
        exact kR _ _ _ _ hW dX10_lost_30
      · replace hf := iff_ hf c3
        refine lv_iload_n hx hb dX10_lost_23 rfl (lv_at hl 2 rfl) ?_
        refine lv_bipush (v := 12) hx hb dX10_lost_24 (by decide) ?_
        refine lv_icmp_le (tgt := 31) hx hb dX10_lost_26 (by decide) (fun c4 => ?_) (fun c4 => ?_)
        · replace hf := ift_ hf c4
          refine lv_aload_n hx hb dX10_lost_31 rfl (lv_at hl 0 rfl) ?_
          refine g_get (ci := 10) (k := 0) (val := .ref (E.ad 1)) C g_us hW rfl rfl rfl (in_sid _ rfl) (by decide) f_RX10_10 rfl dX10_lost_32 ?_
          refine g_get (ci := 1) (k := 2) (val := .ref (E.ad 8)) C g_us hW rfl rfl rfl (in_sid _ rfl) (by decide) f_RX10_169 rfl dX10_lost_35 ?_
          refine lv_iload_n hx hb dX10_lost_38 rfl (lv_at hl 1 rfl) ?_
          refine lv_iload_n hx hb dX10_lost_39 rfl (lv_at hl 2 rfl) ?_
          replace hf := bd_so hf
          obtain ⟨x6, h5, hf⟩ := hf
          refine g_callVi (ci := 3) (As := [.int a1, .int a2]) (rest := []) C g_us hW hl.1 (c_X3_lostOf l E S a1 a2 _ h5) rfl rfl rfl (in_sid _ rfl) k_RX10_252 rfl ⟨rfl, rfl⟩ ⟨Nat.le_of_ble_eq_true rfl, Nat.le_of_ble_eq_true rfl⟩ ⟨Nat.zero_le _, Nat.zero_le _⟩ _ rfl (Nat.le_of_ble_eq_true rfl) dX10_lost_40 (fun H locs hW => ?_)
          obtain rfl := so1 hf
          exact kR _ _ _ _ hW dX10_lost_43
        · replace hf := iff_ hf c4
          refine lv_iconst (v := (-1)) hx hb dX10_lost_29 (by decide) ?_
          obtain rfl := so1 hf
          exact kR _ _ _ _ hW dX10_lost_30

abbrev rm_X10_group : Room := { frames := 4, cells := 0, slots := 0, locals := 130 }
set_option maxHeartbeats 4000000 in
set_option maxRecDepth 100000 in
theorem c_X10_group (l : Launch) (E : En) (S : St) (r : Int32) (hf : X10_group S  = some r) : Mi l E yX10_group cX10_group 2 (some .int) rm_X10_group [.ref (E.ad 0)] S r S := by
  refine g_startI (cc := cX10_group) (n := 2) (by decide) (Nat.le_of_ble_eq_true rfl) ?_
  intro p e s m args below meth c Q H locs C kR hW ls hl
  obtain ⟨⟨hx, hb, hml, hown, hts⟩, hK, hT⟩ := id C
  have hl : lv_has ls 2 [(0, .ref (E.ad 0))] := hl
  have X10_group_L3_c : ∀ (S : St) (res : (Unit) ⊕ (Int32)) (n : Nat) (v1 : Int32) (H : Heap) (locs : List Loc) (ls : Array Slot), Ww E S s H locs → lv_has ls 2 [(0, .ref (E.ad 0)), (1, .int v1)] → X10_group_L3 S  n v1 = some res → (∀ (H : Heap) (locs : List Loc) (ls : Array Slot), some (.inl ()) = some res → Ww E S s H locs → lv_has ls 2 [] → W p l e rm_X10_group s m args below meth c H locs 0 0 Q (F0 m 30 ls [])) → (∀ (r0 : Int32) (H : Heap) (locs : List Loc) (pc : Nat) (ls : Array Slot), some (.inr r0) = some res → Ww E S s H locs → decode cX10_group pc = .ok (.ireturn, 1) → W p l e rm_X10_group s m args below meth c H locs 0 0 Q (F0 m pc ls [.int r0])) → W p l e rm_X10_group s m args below meth c H locs 0 0 Q (F0 m 3 ls []) := by
    intro S  res n
    induction n with
    | zero =>
      intro v1 H locs ls hW hl hf
      cases hf
    | succ n ih =>
      intro v1 H locs ls hW hl hf kE kR
      unfold X10_group_L3 at hf
      refine lv_iload_n hx hb dX10_group_3 rfl (lv_at hl 1 rfl) ?_
      refine lv_iconst (v := 1) hx hb dX10_group_4 (by decide) ?_
      refine lv_icmp_lt (tgt := 30) hx hb dX10_group_5 (by decide) (fun c1 => ?_) (fun c1 => ?_)
      · replace hf := ift_ hf c1
        exact kE  _ _ _ hf hW (lv_sub hl [] rfl)
      · replace hf := iff_ hf c1
        refine lv_aload_n hx hb dX10_group_8 rfl (lv_at hl 0 rfl) ?_
        refine g_get (ci := 10) (k := 0) (val := .ref (E.ad 1)) C g_us hW rfl rfl rfl (in_sid _ rfl) (by decide) f_RX10_10 rfl dX10_group_9 ?_
        refine g_get (ci := 1) (k := 2) (val := .ref (E.ad 8)) C g_us hW rfl rfl rfl (in_sid _ rfl) (by decide) f_RX10_169 rfl dX10_group_12 ?_
        refine lv_iload_n hx hb dX10_group_15 rfl (lv_at hl 1 rfl) ?_
        replace hf := bd_so hf
        obtain ⟨x3, h2, hf⟩ := hf
        refine g_callVi (ci := 3) (As := [.int v1]) (rest := []) C g_us hW hl.1 (c_X3_losesNothing l E S v1 _ h2) rfl rfl rfl (in_sid _ rfl) k_RX10_255 rfl ⟨rfl, rfl⟩ ⟨Nat.le_of_ble_eq_true rfl, Nat.le_of_ble_eq_true rfl⟩ ⟨Nat.zero_le _, Nat.zero_le _⟩ _ rfl (Nat.le_of_ble_eq_true rfl) dX10_group_16 (fun H locs hW => ?_)
        refine lv_if_eq (tgt := 24) hx hb dX10_group_19 (by decide) (fun c4 => ?_) (fun c4 => ?_)
        · replace hf := ift_ hf c4
          refine lv_iinc (v := (v1 + (-1))) (lv' := [(1, .int (v1 + (-1))), (0, .ref (E.ad 0))]) hx hb dX10_group_24 hl (k := 1) rfl rfl (by decide) rfl (fun ls hl => ?_)
          refine lv_goto (tgt := 3) hx hb dX10_group_27 (by decide) ?_
          exact ih _ _ _ _ hW (lv_sub hl [1, 0] rfl) hf kE kR
        · replace hf := iff_ hf c4
          refine lv_iload_n hx hb dX10_group_22 rfl (lv_at hl 1 rfl) ?_
          exact kR _ _ _ _ _ hf hW dX10_group_23
  unfold X10_group at hf
  refine lv_bipush (v := 12) hx hb dX10_group_0 (by decide) ?_
  refine lv_istore_n (lv' := [(1, .int 12), (0, .ref (E.ad 0))]) hx hb dX10_group_2 rfl hl (by decide) rfl (fun ls hl => ?_)
  replace hf := bd_so hf
  obtain ⟨t, h5, hf⟩ := hf
  rcases t with u | x7
  · dsimp only at hf
    have J6 : ∀ (H : Heap) (locs : List Loc) (ls : Array Slot), Ww E S s H locs → lv_has ls 2 [] → W p l e rm_X10_group s m args below meth c H locs 0 0 Q (F0 m 30 ls []) := by
      intro H locs ls hW hl
      refine lv_bipush (v := (-4)) hx hb dX10_group_30 (by decide) ?_
      obtain rfl := so1 hf
      exact kR _ _ _ _ hW dX10_group_32
    exact X10_group_L3_c _ _ FU _ _ _ _ hW (lv_sub hl [1, 0] rfl) h5 (fun H locs ls e hW hl => by cases e; exact J6 H locs ls hW hl) (fun _ H locs pc ls e hW dd => by cases e)
  · dsimp only at hf
    refine X10_group_L3_c _ _ FU _ _ _ _ hW (lv_sub hl [1, 0] rfl) h5 (fun H locs ls e hW hl => by cases e) (fun _ H locs pc ls e hW dd => ?_)
    cases e
    obtain rfl := so1 hf
    exact kR _ _ _ _ hW dd

abbrev rm_X10_clear : Room := { frames := 1, cells := 0, slots := 0, locals := 60 }
set_option maxHeartbeats 4000000 in
set_option maxRecDepth 100000 in
theorem c_X10_clear (l : Launch) (E : En) (S : St) (r : Int32) (S1 : St) (hf : X10_clear S  = some (r, S1)) : Mi l E yX10_clear cX10_clear 2 (some .int) rm_X10_clear [.ref (E.ad 0)] S r S1 := by
  refine g_startI (cc := cX10_clear) (n := 2) (by decide) (Nat.le_of_ble_eq_true rfl) ?_
  intro p e s m args below meth c Q H locs C kR hW ls hl
  obtain ⟨⟨hx, hb, hml, hown, hts⟩, hK, hT⟩ := id C
  have hl : lv_has ls 2 [(0, .ref (E.ad 0))] := hl
  unfold X10_clear at hf
  refine lv_aload_n hx hb dX10_clear_0 rfl (lv_at hl 0 rfl) ?_
  refine g_get (ci := 10) (k := 0) (val := .ref (E.ad 1)) C g_us hW rfl rfl rfl (in_sid _ rfl) (by decide) f_RX10_10 rfl dX10_clear_1 ?_
  refine g_get (ci := 1) (k := 2) (val := .ref (E.ad 8)) C g_us hW rfl rfl rfl (in_sid _ rfl) (by decide) f_RX10_169 rfl dX10_clear_4 ?_
  refine g_get (ci := 3) (k := 0) (val := .int (rI S 8 0)) C g_us hW rfl rfl rfl (in_sid _ rfl) (by decide) f_RX10_173 rfl dX10_clear_7 ?_
  refine lv_istore_n (lv' := [(1, .int (rI S 8 0)), (0, .ref (E.ad 0))]) hx hb dX10_clear_10 rfl hl (by decide) rfl (fun ls hl => ?_)
  refine lv_aload_n hx hb dX10_clear_11 rfl (lv_at hl 1 rfl) ?_
  refine g_get (ci := 10) (k := 0) (val := .ref (E.ad 1)) C g_us hW rfl rfl rfl (in_sid _ rfl) (by decide) f_RX10_10 rfl dX10_clear_12 ?_
  refine g_get (ci := 1) (k := 2) (val := .ref (E.ad 8)) C g_us hW rfl rfl rfl (in_sid _ rfl) (by decide) f_RX10_169 rfl dX10_clear_15 ?_
  refine lv_iconst (v := 0) hx hb dX10_clear_18 (by decide) ?_
  replace hf := bd_so hf
  obtain ⟨S1, h2, hf⟩ := hf
  refine g_putI (ci := 3) (k := 0) C g_us hW rfl rfl rfl (in_sid _ rfl) (by decide) f_RX10_173 rfl rfl rfl h2 dX10_clear_19 (fun H locs hW => ?_)
  refine lv_iload_n hx hb dX10_clear_22 rfl (lv_at hl 0 rfl) ?_
  obtain ⟨rfl, rfl⟩ := so2 hf
  exact kR _ _ _ _ hW dX10_clear_23

abbrev rm_X10_most : Room := { frames := 1, cells := 0, slots := 0, locals := 60 }
set_option maxHeartbeats 4000000 in
set_option maxRecDepth 100000 in
theorem c_X10_most (l : Launch) (E : En) (S : St) (a1 : Int32) (r : Int32) (S1 : St) (hf : X10_most S a1 = some (r, S1)) : Mi l E yX10_most cX10_most 3 (some .int) rm_X10_most [.ref (E.ad 0), .int a1] S r S1 := by
  refine g_startI (cc := cX10_most) (n := 3) (by decide) (Nat.le_of_ble_eq_true rfl) ?_
  intro p e s m args below meth c Q H locs C kR hW ls hl
  obtain ⟨⟨hx, hb, hml, hown, hts⟩, hK, hT⟩ := id C
  have hl : lv_has ls 3 [(0, .ref (E.ad 0)), (1, .int a1)] := hl
  unfold X10_most at hf
  refine lv_iload_n hx hb dX10_most_0 rfl (lv_at hl 1 rfl) ?_
  refine lv_iconst (v := 1) hx hb dX10_most_1 (by decide) ?_
  refine lv_icmp_lt (tgt := 11) hx hb dX10_most_2 (by decide) (fun c1 => ?_) (fun c1 => ?_)
  · replace hf := ift_ hf c1
    refine lv_iconst (v := (-1)) hx hb dX10_most_11 (by decide) ?_
    obtain ⟨rfl, rfl⟩ := so2 hf
    exact kR _ _ _ _ hW dX10_most_12
  · replace hf := iff_ hf c1
    refine lv_iload_n hx hb dX10_most_5 rfl (lv_at hl 1 rfl) ?_
    refine lv_bipush (v := 7) hx hb dX10_most_6 (by decide) ?_
    refine lv_icmp_le (tgt := 13) hx hb dX10_most_8 (by decide) (fun c2 => ?_) (fun c2 => ?_)
    · replace hf := ift_ hf c2
      refine lv_aload_n hx hb dX10_most_13 rfl (lv_at hl 0 rfl) ?_
      refine g_get (ci := 10) (k := 0) (val := .ref (E.ad 1)) C g_us hW rfl rfl rfl (in_sid _ rfl) (by decide) f_RX10_10 rfl dX10_most_14 ?_
      refine g_get (ci := 1) (k := 0) (val := .ref (E.ad 2)) C g_us hW rfl rfl rfl (in_sid _ rfl) (by decide) f_RX10_62 rfl dX10_most_17 ?_
      refine g_get (ci := 6) (k := 2) (val := .int (rI S 2 2)) C g_us hW rfl rfl rfl (in_sid _ rfl) (by decide) f_RX10_258 rfl dX10_most_20 ?_
      refine lv_istore_n (lv' := [(2, .int (rI S 2 2)), (0, .ref (E.ad 0)), (1, .int a1)]) hx hb dX10_most_23 rfl hl (by decide) rfl (fun ls hl => ?_)
      refine lv_aload_n hx hb dX10_most_24 rfl (lv_at hl 1 rfl) ?_
      refine g_get (ci := 10) (k := 0) (val := .ref (E.ad 1)) C g_us hW rfl rfl rfl (in_sid _ rfl) (by decide) f_RX10_10 rfl dX10_most_25 ?_
      refine g_get (ci := 1) (k := 0) (val := .ref (E.ad 2)) C g_us hW rfl rfl rfl (in_sid _ rfl) (by decide) f_RX10_62 rfl dX10_most_28 ?_
      refine lv_iload_n hx hb dX10_most_31 rfl (lv_at hl 2 rfl) ?_
      replace hf := bd_so hf
      obtain ⟨S3, h4, hf⟩ := hf
      refine g_putI (ci := 6) (k := 2) C g_us hW rfl rfl rfl (in_sid _ rfl) (by decide) f_RX10_258 rfl rfl rfl h4 dX10_most_32 (fun H locs hW => ?_)
      refine lv_iload_n hx hb dX10_most_35 rfl (lv_at hl 0 rfl) ?_
      obtain ⟨rfl, rfl⟩ := so2 hf
      exact kR _ _ _ _ hW dX10_most_36
    · replace hf := iff_ hf c2
      refine lv_iconst (v := (-1)) hx hb dX10_most_11 (by decide) ?_
      obtain ⟨rfl, rfl⟩ := so2 hf
      exact kR _ _ _ _ hW dX10_most_12

abbrev rm_X10_net : Room := { frames := 6, cells := 0, slots := 0, locals := 183 }
set_option maxHeartbeats 4000000 in
set_option maxRecDepth 100000 in
theorem c_X10_net (l : Launch) (E : En) (S : St) (r : Int32) (S1 : St) (hf : X10_net S  = some (r, S1)) : Mi l E yX10_net cX10_net 2 (some .int) rm_X10_net [.ref (E.ad 0)] S r S1 := by
  refine g_startI (cc := cX10_net) (n := 2) (by decide) (Nat.le_of_ble_eq_true rfl) ?_
  intro p e s m args below meth c Q H locs C kR hW ls hl
  obtain ⟨⟨hx, hb, hml, hown, hts⟩, hK, hT⟩ := id C
  have hl : lv_has ls 2 [(0, .ref (E.ad 0))] := hl
  unfold X10_net at hf
  refine lv_aload_n hx hb dX10_net_0 rfl (lv_at hl 0 rfl) ?_
  refine g_get (ci := 10) (k := 0) (val := .ref (E.ad 1)) C g_us hW rfl rfl rfl (in_sid _ rfl) (by decide) f_RX10_10 rfl dX10_net_1 ?_
  refine g_get (ci := 1) (k := 0) (val := .ref (E.ad 2)) C g_us hW rfl rfl rfl (in_sid _ rfl) (by decide) f_RX10_62 rfl dX10_net_4 ?_
  replace hf := bd_so hf
  obtain ⟨x2, h1, hf⟩ := hf
  refine g_callVi (ci := 6) (As := []) (rest := []) C g_us hW hl.1 (c_X6_uncut l E S  _ h1) rfl rfl rfl (in_sid _ rfl) k_RX10_232 rfl ⟨rfl, rfl⟩ ⟨Nat.le_of_ble_eq_true rfl, Nat.le_of_ble_eq_true rfl⟩ ⟨Nat.zero_le _, Nat.zero_le _⟩ _ rfl (Nat.le_of_ble_eq_true rfl) dX10_net_7 (fun H locs hW => ?_)
  replace hf := bd_so hf
  obtain ⟨x4, h3, hf⟩ := hf
  refine g_callSi (As := [.int x2]) (rest := []) C g_us hW hl.1 (c_J6_bitCount_0f7a4 l E S x2 _ h3) k_RX10_149 rfl ⟨rfl, rfl⟩ ⟨Nat.le_of_ble_eq_true rfl, Nat.le_of_ble_eq_true rfl⟩ ⟨Nat.zero_le _, Nat.zero_le _⟩ _ rfl (Nat.le_of_ble_eq_true rfl) dX10_net_10 (fun H locs hW => ?_)
  refine lv_istore_n (lv' := [(1, .int x4), (0, .ref (E.ad 0))]) hx hb dX10_net_13 rfl hl (by decide) rfl (fun ls hl => ?_)
  refine lv_iload_n hx hb dX10_net_14 rfl (lv_at hl 0 rfl) ?_
  refine lv_iconst (v := 2) hx hb dX10_net_15 (by decide) ?_
  refine lv_icmp_lt (tgt := 25) hx hb dX10_net_16 (by decide) (fun c5 => ?_) (fun c5 => ?_)
  · replace hf := ift_ hf c5
    refine lv_bipush (v := (-2)) hx hb dX10_net_25 (by decide) ?_
    refine lv_goto (tgt := 44) hx hb dX10_net_27 (by decide) ?_
    obtain ⟨rfl, rfl⟩ := so2 hf
    exact kR _ _ _ _ hW dX10_net_44
  · replace hf := iff_ hf c5
    refine lv_iload_n hx hb dX10_net_19 rfl (lv_at hl 0 rfl) ?_
    refine lv_bipush (v := 6) hx hb dX10_net_20 (by decide) ?_
    refine lv_icmp_le (tgt := 30) hx hb dX10_net_22 (by decide) (fun c6 => ?_) (fun c6 => ?_)
    · replace hf := ift_ hf c6
      refine lv_aload_n hx hb dX10_net_30 rfl (lv_at hl 1 rfl) ?_
      refine g_get (ci := 10) (k := 7) (val := .ref (E.ad 35)) C g_us hW rfl rfl rfl (in_sid _ rfl) (by decide) f_RX10_58 rfl dX10_net_31 ?_
      refine lv_aload_n hx hb dX10_net_34 rfl (lv_at hl 1 rfl) ?_
      refine g_get (ci := 10) (k := 0) (val := .ref (E.ad 1)) C g_us hW rfl rfl rfl (in_sid _ rfl) (by decide) f_RX10_10 rfl dX10_net_35 ?_
      refine g_get (ci := 1) (k := 0) (val := .ref (E.ad 2)) C g_us hW rfl rfl rfl (in_sid _ rfl) (by decide) f_RX10_62 rfl dX10_net_38 ?_
      replace hf := bd_so hf
      obtain ⟨⟨x8, S9⟩, h7, hf⟩ := hf
      dsimp only at hf
      refine g_callVi (ci := 4) (As := [.ref (E.ad 2)]) (rest := []) C g_us hW hl.1 (c_X4_leastWait l E S  _ _ h7) rfl rfl rfl (in_sid _ rfl) k_RX10_261 rfl ⟨rfl, rfl⟩ ⟨Nat.le_of_ble_eq_true rfl, Nat.le_of_ble_eq_true rfl⟩ ⟨Nat.zero_le _, Nat.zero_le _⟩ _ rfl (Nat.le_of_ble_eq_true rfl) dX10_net_41 (fun H locs hW => ?_)
      obtain ⟨rfl, rfl⟩ := so2 hf
      exact kR _ _ _ _ hW dX10_net_44
    · replace hf := iff_ hf c6
      refine lv_bipush (v := (-2)) hx hb dX10_net_25 (by decide) ?_
      refine lv_goto (tgt := 44) hx hb dX10_net_27 (by decide) ?_
      obtain ⟨rfl, rfl⟩ := so2 hf
      exact kR _ _ _ _ hW dX10_net_44

abbrev rm_X10_sheet : Room := { frames := 3, cells := 0, slots := 0, locals := 105 }
set_option maxHeartbeats 4000000 in
set_option maxRecDepth 100000 in
theorem c_X10_sheet (l : Launch) (E : En) (S : St) (a1 : Int32) (a2 : Int32) (a3 : Int32) (r : Int32) (S1 : St) (hf : X10_sheet S a1 a2 a3 = some (r, S1)) : Mi l E yX10_sheet cX10_sheet 4 (some .int) rm_X10_sheet [.ref (E.ad 0), .int a1, .int a2, .int a3] S r S1 := by
  refine g_startI (cc := cX10_sheet) (n := 4) (by decide) (Nat.le_of_ble_eq_true rfl) ?_
  intro p e s m args below meth c Q H locs C kR hW ls hl
  obtain ⟨⟨hx, hb, hml, hown, hts⟩, hK, hT⟩ := id C
  have hl : lv_has ls 4 [(0, .ref (E.ad 0)), (1, .int a1), (2, .int a2), (3, .int a3)] := hl
  unfold X10_sheet at hf
  refine lv_iload_n hx hb dX10_sheet_0 rfl (lv_at hl 1 rfl) ?_
  replace hf := bd_so hf
  obtain ⟨x2, h1, hf⟩ := hf
  refine g_callSi (As := [.int a1]) (rest := []) C g_us hW hl.1 (c_X10_isSheet l E S a1 _ h1) k_RX10_95 rfl ⟨rfl, rfl⟩ ⟨Nat.le_of_ble_eq_true rfl, Nat.le_of_ble_eq_true rfl⟩ ⟨Nat.zero_le _, Nat.zero_le _⟩ _ rfl (Nat.le_of_ble_eq_true rfl) dX10_sheet_1 (fun H locs hW => ?_)
  refine lv_if_eq (tgt := 20) hx hb dX10_sheet_4 (by decide) (fun c3 => ?_) (fun c3 => ?_)
  · replace hf := ift_ hf c3
    refine lv_iconst (v := (-1)) hx hb dX10_sheet_20 (by decide) ?_
    obtain ⟨rfl, rfl⟩ := so2 hf
    exact kR _ _ _ _ hW dX10_sheet_21
  · replace hf := iff_ hf c3
    refine lv_iload_n hx hb dX10_sheet_7 rfl (lv_at hl 2 rfl) ?_
    replace hf := bd_so hf
    obtain ⟨x5, h4, hf⟩ := hf
    refine g_callSi (As := [.int a2]) (rest := []) C g_us hW hl.1 (c_X10_isLane l E S a2 _ h4) k_RX10_98 rfl ⟨rfl, rfl⟩ ⟨Nat.le_of_ble_eq_true rfl, Nat.le_of_ble_eq_true rfl⟩ ⟨Nat.zero_le _, Nat.zero_le _⟩ _ rfl (Nat.le_of_ble_eq_true rfl) dX10_sheet_8 (fun H locs hW => ?_)
    refine lv_if_eq (tgt := 20) hx hb dX10_sheet_11 (by decide) (fun c6 => ?_) (fun c6 => ?_)
    · replace hf := ift_ hf c6
      refine lv_iconst (v := (-1)) hx hb dX10_sheet_20 (by decide) ?_
      obtain ⟨rfl, rfl⟩ := so2 hf
      exact kR _ _ _ _ hW dX10_sheet_21
    · replace hf := iff_ hf c6
      refine lv_iload_n hx hb dX10_sheet_14 rfl (lv_at hl 3 rfl) ?_
      refine lv_bipush (v := 40) hx hb dX10_sheet_15 (by decide) ?_
      refine lv_icmp_le (tgt := 22) hx hb dX10_sheet_17 (by decide) (fun c7 => ?_) (fun c7 => ?_)
      · replace hf := ift_ hf c7
        refine lv_iload_n hx hb dX10_sheet_22 rfl (lv_at hl 3 rfl) ?_
        refine lv_if_ge (tgt := 31) hx hb dX10_sheet_23 (by decide) (fun c8 => ?_) (fun c8 => ?_)
        · replace hf := ift_ hf c8
          refine lv_aload_n hx hb dX10_sheet_31 rfl (lv_at hl 0 rfl) ?_
          refine g_get (ci := 10) (k := 3) (val := .ref (E.ad 15)) C g_us hW rfl rfl rfl (in_sid _ rfl) (by decide) f_RX10_30 rfl dX10_sheet_32 ?_
          refine lv_iload_n hx hb dX10_sheet_35 rfl (lv_at hl 1 rfl) ?_
          replace hf := bd_so hf
          obtain ⟨y9, h10, hf⟩ := hf
          refine g_sht C hW h10 dX10_sheet_36 ?_
          refine lv_iload_n hx hb dX10_sheet_37 rfl (lv_at hl 2 rfl) ?_
          refine lv_iload_n hx hb dX10_sheet_38 rfl (lv_at hl 3 rfl) ?_
          replace hf := bd_so hf
          obtain ⟨_, h11, hf⟩ := hf
          replace hf := bd_so hf
          obtain ⟨⟨x13, S14⟩, h12, hf⟩ := hf
          dsimp only at hf
          refine g_callVi (ci := 7) (As := [.int a2, .int a3]) (rest := []) C g_us hW hl.1 (c_X7_renew l E S y9 a2 a3 _ _ h12) rfl (if_so h11).1.1 (if_so h11).1.2.1 (if_so h11).1.2.2 k_RX10_267 rfl ⟨rfl, rfl⟩ ⟨Nat.le_of_ble_eq_true rfl, Nat.le_of_ble_eq_true rfl⟩ ⟨Nat.zero_le _, Nat.zero_le _⟩ _ rfl (Nat.le_of_ble_eq_true rfl) dX10_sheet_39 (fun H locs hW => ?_)
          obtain ⟨rfl, rfl⟩ := so2 hf
          exact kR _ _ _ _ hW dX10_sheet_42
        · replace hf := iff_ hf c8
          refine lv_bipush (v := (-14)) hx hb dX10_sheet_26 (by decide) ?_
          refine lv_goto (tgt := 42) hx hb dX10_sheet_28 (by decide) ?_
          obtain ⟨rfl, rfl⟩ := so2 hf
          exact kR _ _ _ _ hW dX10_sheet_42
      · replace hf := iff_ hf c7
        refine lv_iconst (v := (-1)) hx hb dX10_sheet_20 (by decide) ?_
        obtain ⟨rfl, rfl⟩ := so2 hf
        exact kR _ _ _ _ hW dX10_sheet_21

abbrev rm_X10_drop : Room := { frames := 2, cells := 0, slots := 0, locals := 80 }
set_option maxHeartbeats 4000000 in
set_option maxRecDepth 100000 in
theorem c_X10_drop (l : Launch) (E : En) (S : St) (a1 : Int32) (r : Int32) (S1 : St) (hf : X10_drop S a1 = some (r, S1)) : Mi l E yX10_drop cX10_drop 2 (some .int) rm_X10_drop [.ref (E.ad 0), .int a1] S r S1 := by
  refine g_startI (cc := cX10_drop) (n := 2) (by decide) (Nat.le_of_ble_eq_true rfl) ?_
  intro p e s m args below meth c Q H locs C kR hW ls hl
  obtain ⟨⟨hx, hb, hml, hown, hts⟩, hK, hT⟩ := id C
  have hl : lv_has ls 2 [(0, .ref (E.ad 0)), (1, .int a1)] := hl
  unfold X10_drop at hf
  refine lv_iload_n hx hb dX10_drop_0 rfl (lv_at hl 1 rfl) ?_
  replace hf := bd_so hf
  obtain ⟨x2, h1, hf⟩ := hf
  refine g_callSi (As := [.int a1]) (rest := []) C g_us hW hl.1 (c_X10_isSheet l E S a1 _ h1) k_RX10_95 rfl ⟨rfl, rfl⟩ ⟨Nat.le_of_ble_eq_true rfl, Nat.le_of_ble_eq_true rfl⟩ ⟨Nat.zero_le _, Nat.zero_le _⟩ _ rfl (Nat.le_of_ble_eq_true rfl) dX10_drop_1 (fun H locs hW => ?_)
  refine lv_if_ne (tgt := 9) hx hb dX10_drop_4 (by decide) (fun c3 => ?_) (fun c3 => ?_)
  · replace hf := iff_ hf c3
    refine lv_aload_n hx hb dX10_drop_9 rfl (lv_at hl 0 rfl) ?_
    refine g_get (ci := 10) (k := 3) (val := .ref (E.ad 15)) C g_us hW rfl rfl rfl (in_sid _ rfl) (by decide) f_RX10_30 rfl dX10_drop_10 ?_
    refine lv_iload_n hx hb dX10_drop_13 rfl (lv_at hl 1 rfl) ?_
    replace hf := bd_so hf
    obtain ⟨y4, h5, hf⟩ := hf
    refine g_sht C hW h5 dX10_drop_14 ?_
    replace hf := bd_so hf
    obtain ⟨_, h6, hf⟩ := hf
    refine g_get (ci := 7) (k := 0) (val := .int (rI S y4 0)) C g_us hW rfl (if_so h6).1.1 (if_so h6).1.2.1 (if_so h6).1.2.2 (by decide) f_RX10_270 rfl dX10_drop_15 ?_
    refine lv_iconst (v := (-1)) hx hb dX10_drop_18 (by decide) ?_
    refine lv_icmp_ne (tgt := 27) hx hb dX10_drop_19 (by decide) (fun c7 => ?_) (fun c7 => ?_)
    · replace hf := iff_ hf c7
      refine lv_aload_n hx hb dX10_drop_27 rfl (lv_at hl 0 rfl) ?_
      refine g_get (ci := 10) (k := 3) (val := .ref (E.ad 15)) C g_us hW rfl rfl rfl (in_sid _ rfl) (by decide) f_RX10_30 rfl dX10_drop_28 ?_
      refine lv_iload_n hx hb dX10_drop_31 rfl (lv_at hl 1 rfl) ?_
      replace hf := bd_so hf
      obtain ⟨y8, h9, hf⟩ := hf
      refine g_sht C hW h9 dX10_drop_32 ?_
      replace hf := bd_so hf
      obtain ⟨_, h10, hf⟩ := hf
      replace hf := bd_so hf
      obtain ⟨⟨x12, S13⟩, h11, hf⟩ := hf
      dsimp only at hf
      refine g_callVi (ci := 7) (As := []) (rest := []) C g_us hW hl.1 (c_X7_empty l E S y8 _ _ h11) rfl (if_so h10).1.1 (if_so h10).1.2.1 (if_so h10).1.2.2 k_RX10_273 rfl ⟨rfl, rfl⟩ ⟨Nat.le_of_ble_eq_true rfl, Nat.le_of_ble_eq_true rfl⟩ ⟨Nat.zero_le _, Nat.zero_le _⟩ _ rfl (Nat.le_of_ble_eq_true rfl) dX10_drop_33 (fun H locs hW => ?_)
      obtain ⟨rfl, rfl⟩ := so2 hf
      exact kR _ _ _ _ hW dX10_drop_36
    · replace hf := ift_ hf c7
      refine lv_bipush (v := (-11)) hx hb dX10_drop_22 (by decide) ?_
      refine lv_goto (tgt := 36) hx hb dX10_drop_24 (by decide) ?_
      obtain ⟨rfl, rfl⟩ := so2 hf
      exact kR _ _ _ _ hW dX10_drop_36
  · replace hf := ift_ hf c3
    refine lv_iconst (v := (-1)) hx hb dX10_drop_7 (by decide) ?_
    obtain ⟨rfl, rfl⟩ := so2 hf
    exact kR _ _ _ _ hW dX10_drop_8

abbrev rm_X10_item : Room := { frames := 2, cells := 0, slots := 0, locals := 82 }
set_option maxHeartbeats 4000000 in
set_option maxRecDepth 100000 in
theorem c_X10_item (l : Launch) (E : En) (S : St) (a1 : Int32) (a2 : Int32) (a3 : Int32) (a4 : Int32) (r : Int32) (S1 : St) (hf : X10_item S a1 a2 a3 a4 = some (r, S1)) : Mi l E yX10_item cX10_item 6 (some .int) rm_X10_item [.ref (E.ad 0), .int a1, .int a2, .int a3, .int a4] S r S1 := by
  refine g_startI (cc := cX10_item) (n := 6) (by decide) (Nat.le_of_ble_eq_true rfl) ?_
  intro p e s m args below meth c Q H locs C kR hW ls hl
  obtain ⟨⟨hx, hb, hml, hown, hts⟩, hK, hT⟩ := id C
  have hl : lv_has ls 6 [(0, .ref (E.ad 0)), (1, .int a1), (2, .int a2), (3, .int a3), (4, .int a4)] := hl
  unfold X10_item at hf
  refine lv_iload_n hx hb dX10_item_0 rfl (lv_at hl 1 rfl) ?_
  replace hf := bd_so hf
  obtain ⟨x2, h1, hf⟩ := hf
  refine g_callSi (As := [.int a1]) (rest := []) C g_us hW hl.1 (c_X10_isSheet l E S a1 _ h1) k_RX10_95 rfl ⟨rfl, rfl⟩ ⟨Nat.le_of_ble_eq_true rfl, Nat.le_of_ble_eq_true rfl⟩ ⟨Nat.zero_le _, Nat.zero_le _⟩ _ rfl (Nat.le_of_ble_eq_true rfl) dX10_item_1 (fun H locs hW => ?_)
  refine lv_if_eq (tgt := 14) hx hb dX10_item_4 (by decide) (fun c3 => ?_) (fun c3 => ?_)
  · replace hf := ift_ hf c3
    refine lv_iconst (v := (-1)) hx hb dX10_item_14 (by decide) ?_
    obtain ⟨rfl, rfl⟩ := so2 hf
    exact kR _ _ _ _ hW dX10_item_15
  · replace hf := iff_ hf c3
    refine lv_iload_n hx hb dX10_item_7 rfl (lv_at hl 2 rfl) ?_
    replace hf := bd_so hf
    obtain ⟨x5, h4, hf⟩ := hf
    refine g_callSi (As := [.int a2]) (rest := []) C g_us hW hl.1 (c_X10_isLane l E S a2 _ h4) k_RX10_98 rfl ⟨rfl, rfl⟩ ⟨Nat.le_of_ble_eq_true rfl, Nat.le_of_ble_eq_true rfl⟩ ⟨Nat.zero_le _, Nat.zero_le _⟩ _ rfl (Nat.le_of_ble_eq_true rfl) dX10_item_8 (fun H locs hW => ?_)
    refine lv_if_ne (tgt := 16) hx hb dX10_item_11 (by decide) (fun c6 => ?_) (fun c6 => ?_)
    · replace hf := iff_ hf c6
      refine lv_aload_n hx hb dX10_item_16 rfl (lv_at hl 0 rfl) ?_
      refine g_get (ci := 10) (k := 3) (val := .ref (E.ad 15)) C g_us hW rfl rfl rfl (in_sid _ rfl) (by decide) f_RX10_30 rfl dX10_item_17 ?_
      refine lv_iload_n hx hb dX10_item_20 rfl (lv_at hl 1 rfl) ?_
      replace hf := bd_so hf
      obtain ⟨y7, h8, hf⟩ := hf
      refine g_sht C hW h8 dX10_item_21 ?_
      refine lv_iload_n hx hb dX10_item_22 rfl (lv_at hl 2 rfl) ?_
      replace hf := bd_so hf
      obtain ⟨_, h9, hf⟩ := hf
      replace hf := bd_so hf
      obtain ⟨x11, h10, hf⟩ := hf
      refine g_callVi (ci := 7) (As := [.int a2]) (rest := []) C g_us hW hl.1 (c_X7_refusal l E S y7 a2 _ h10) rfl (if_so h9).1.1 (if_so h9).1.2.1 (if_so h9).1.2.2 k_RX10_101 rfl ⟨rfl, rfl⟩ ⟨Nat.le_of_ble_eq_true rfl, Nat.le_of_ble_eq_true rfl⟩ ⟨Nat.zero_le _, Nat.zero_le _⟩ _ rfl (Nat.le_of_ble_eq_true rfl) dX10_item_23 (fun H locs hW => ?_)
      refine lv_istore (lv' := [(5, .int x11), (0, .ref (E.ad 0)), (1, .int a1), (2, .int a2), (3, .int a3), (4, .int a4)]) hx hb dX10_item_26 hl (by decide) rfl (fun ls hl => ?_)
      refine lv_iload hx hb dX10_item_28 (lv_at hl 0 rfl) ?_
      refine lv_if_eq (tgt := 36) hx hb dX10_item_30 (by decide) (fun c12 => ?_) (fun c12 => ?_)
      · replace hf := ift_ hf c12
        refine lv_aload_n hx hb dX10_item_36 rfl (lv_at hl 1 rfl) ?_
        refine g_get (ci := 10) (k := 3) (val := .ref (E.ad 15)) C g_us hW rfl rfl rfl (in_sid _ rfl) (by decide) f_RX10_30 rfl dX10_item_37 ?_
        refine lv_iload_n hx hb dX10_item_40 rfl (lv_at hl 2 rfl) ?_
        replace hf := bd_so hf
        obtain ⟨y13, h14, hf⟩ := hf
        refine g_sht C hW h14 dX10_item_41 ?_
        refine lv_iload_n hx hb dX10_item_42 rfl (lv_at hl 4 rfl) ?_
        refine lv_iconst (v := 1) hx hb dX10_item_43 (by decide) ?_
        replace hf := bd_so hf
        obtain ⟨_, h15, hf⟩ := hf
        replace hf := bd_so hf
        obtain ⟨x17, h16, hf⟩ := hf
        refine g_callVi (ci := 7) (As := [.int a3, .int 1]) (rest := []) C g_us hW hl.1 (c_X7_holds l E S y13 a3 1 _ h16) rfl (if_so h15).1.1 (if_so h15).1.2.1 (if_so h15).1.2.2 k_RX10_104 rfl ⟨rfl, rfl⟩ ⟨Nat.le_of_ble_eq_true rfl, Nat.le_of_ble_eq_true rfl⟩ ⟨Nat.zero_le _, Nat.zero_le _⟩ _ rfl (Nat.le_of_ble_eq_true rfl) dX10_item_44 (fun H locs hW => ?_)
        refine lv_if_eq (tgt := 65) hx hb dX10_item_47 (by decide) (fun c18 => ?_) (fun c18 => ?_)
        · replace hf := ift_ hf c18
          refine lv_bipush (v := (-13)) hx hb dX10_item_65 (by decide) ?_
          obtain ⟨rfl, rfl⟩ := so2 hf
          exact kR _ _ _ _ hW dX10_item_67
        · replace hf := iff_ hf c18
          refine lv_aload_n hx hb dX10_item_50 rfl (lv_at hl 1 rfl) ?_
          refine g_get (ci := 10) (k := 3) (val := .ref (E.ad 15)) C g_us hW rfl rfl rfl (in_sid _ rfl) (by decide) f_RX10_30 rfl dX10_item_51 ?_
          refine lv_iload_n hx hb dX10_item_54 rfl (lv_at hl 2 rfl) ?_
          replace hf := bd_so hf
          obtain ⟨y19, h20, hf⟩ := hf
          refine g_sht C hW h20 dX10_item_55 ?_
          refine lv_iload_n hx hb dX10_item_56 rfl (lv_at hl 4 rfl) ?_
          refine lv_iload hx hb dX10_item_57 (lv_at hl 5 rfl) ?_
          replace hf := bd_so hf
          obtain ⟨_, h21, hf⟩ := hf
          replace hf := bd_so hf
          obtain ⟨⟨x23, S24⟩, h22, hf⟩ := hf
          dsimp only at hf
          refine g_callVi (ci := 7) (As := [.int a3, .int a4]) (rest := []) C g_us hW hl.1 (c_X7_put l E S y19 a3 a4 _ _ h22) rfl (if_so h21).1.1 (if_so h21).1.2.1 (if_so h21).1.2.2 k_RX10_276 rfl ⟨rfl, rfl⟩ ⟨Nat.le_of_ble_eq_true rfl, Nat.le_of_ble_eq_true rfl⟩ ⟨Nat.zero_le _, Nat.zero_le _⟩ _ rfl (Nat.le_of_ble_eq_true rfl) dX10_item_59 (fun H locs hW => ?_)
          refine lv_goto (tgt := 67) hx hb dX10_item_62 (by decide) ?_
          obtain ⟨rfl, rfl⟩ := so2 hf
          exact kR _ _ _ _ hW dX10_item_67
      · replace hf := iff_ hf c12
        refine lv_iload hx hb dX10_item_33 (lv_at hl 0 rfl) ?_
        obtain ⟨rfl, rfl⟩ := so2 hf
        exact kR _ _ _ _ hW dX10_item_35
    · replace hf := ift_ hf c6
      refine lv_iconst (v := (-1)) hx hb dX10_item_14 (by decide) ?_
      obtain ⟨rfl, rfl⟩ := so2 hf
      exact kR _ _ _ _ hW dX10_item_15

abbrev rm_X10_copy : Room := { frames := 2, cells := 0, slots := 0, locals := 82 }
set_option maxHeartbeats 4000000 in
set_option maxRecDepth 100000 in
theorem c_X10_copy (l : Launch) (E : En) (S : St) (a1 : Int32) (a2 : Int32) (a3 : Int32) (a4 : Int32) (a5 : Int32) (r : Int32) (S1 : St) (hf : X10_copy S a1 a2 a3 a4 a5 = some (r, S1)) : Mi l E yX10_copy cX10_copy 8 (some .int) rm_X10_copy [.ref (E.ad 0), .int a1, .int a2, .int a3, .int a4, .int a5] S r S1 := by
  refine g_startI (cc := cX10_copy) (n := 8) (by decide) (Nat.le_of_ble_eq_true rfl) ?_
  intro p e s m args below meth c Q H locs C kR hW ls hl
  obtain ⟨⟨hx, hb, hml, hown, hts⟩, hK, hT⟩ := id C
  have hl : lv_has ls 8 [(0, .ref (E.ad 0)), (1, .int a1), (2, .int a2), (3, .int a3), (4, .int a4), (5, .int a5)] := hl
  unfold X10_copy at hf
  refine lv_iload_n hx hb dX10_copy_0 rfl (lv_at hl 1 rfl) ?_
  replace hf := bd_so hf
  obtain ⟨x2, h1, hf⟩ := hf
  refine g_callSi (As := [.int a1]) (rest := []) C g_us hW hl.1 (c_X10_isSheet l E S a1 _ h1) k_RX10_95 rfl ⟨rfl, rfl⟩ ⟨Nat.le_of_ble_eq_true rfl, Nat.le_of_ble_eq_true rfl⟩ ⟨Nat.zero_le _, Nat.zero_le _⟩ _ rfl (Nat.le_of_ble_eq_true rfl) dX10_copy_1 (fun H locs hW => ?_)
  refine lv_if_eq (tgt := 14) hx hb dX10_copy_4 (by decide) (fun c3 => ?_) (fun c3 => ?_)
  · replace hf := ift_ hf c3
    refine lv_iconst (v := (-1)) hx hb dX10_copy_14 (by decide) ?_
    obtain ⟨rfl, rfl⟩ := so2 hf
    exact kR _ _ _ _ hW dX10_copy_15
  · replace hf := iff_ hf c3
    refine lv_iload_n hx hb dX10_copy_7 rfl (lv_at hl 3 rfl) ?_
    replace hf := bd_so hf
    obtain ⟨x5, h4, hf⟩ := hf
    refine g_callSi (As := [.int a3]) (rest := []) C g_us hW hl.1 (c_X10_isSheet l E S a3 _ h4) k_RX10_95 rfl ⟨rfl, rfl⟩ ⟨Nat.le_of_ble_eq_true rfl, Nat.le_of_ble_eq_true rfl⟩ ⟨Nat.zero_le _, Nat.zero_le _⟩ _ rfl (Nat.le_of_ble_eq_true rfl) dX10_copy_8 (fun H locs hW => ?_)
    refine lv_if_ne (tgt := 16) hx hb dX10_copy_11 (by decide) (fun c6 => ?_) (fun c6 => ?_)
    · replace hf := iff_ hf c6
      refine lv_aload_n hx hb dX10_copy_16 rfl (lv_at hl 0 rfl) ?_
      refine g_get (ci := 10) (k := 3) (val := .ref (E.ad 15)) C g_us hW rfl rfl rfl (in_sid _ rfl) (by decide) f_RX10_30 rfl dX10_copy_17 ?_
      refine lv_iload_n hx hb dX10_copy_20 rfl (lv_at hl 1 rfl) ?_
      replace hf := bd_so hf
      obtain ⟨y7, h8, hf⟩ := hf
      refine g_sht C hW h8 dX10_copy_21 ?_
      refine lv_astore (lv' := [(6, .ref (E.ad y7)), (0, .ref (E.ad 0)), (1, .int a1), (2, .int a2), (3, .int a3), (4, .int a4), (5, .int a5)]) hx hb dX10_copy_22 hl (by decide) rfl (fun ls hl => ?_)
      refine lv_aload hx hb dX10_copy_24 (lv_at hl 0 rfl) ?_
      replace hf := bd_so hf
      obtain ⟨_, h9, hf⟩ := hf
      refine g_get (ci := 7) (k := 0) (val := .int (rI S y7 0)) C g_us hW rfl (if_so h9).1.1 (if_so h9).1.2.1 (if_so h9).1.2.2 (by decide) f_RX10_270 rfl dX10_copy_26 ?_
      refine lv_iconst (v := (-1)) hx hb dX10_copy_29 (by decide) ?_
      refine lv_icmp_ne (tgt := 36) hx hb dX10_copy_30 (by decide) (fun c10 => ?_) (fun c10 => ?_)
      · replace hf := iff_ hf c10
        refine lv_aload_n hx hb dX10_copy_36 rfl (lv_at hl 1 rfl) ?_
        refine g_get (ci := 10) (k := 3) (val := .ref (E.ad 15)) C g_us hW rfl rfl rfl (in_sid _ rfl) (by decide) f_RX10_30 rfl dX10_copy_37 ?_
        refine lv_iload_n hx hb dX10_copy_40 rfl (lv_at hl 4 rfl) ?_
        replace hf := bd_so hf
        obtain ⟨y11, h12, hf⟩ := hf
        refine g_sht C hW h12 dX10_copy_41 ?_
        refine lv_aload hx hb dX10_copy_42 (lv_at hl 0 rfl) ?_
        replace hf := bd_so hf
        obtain ⟨_, h13, hf⟩ := hf
        refine g_get (ci := 7) (k := 0) (val := .int (rI S y7 0)) C g_us hW rfl (if_so h13).1.1 (if_so h13).1.2.1 (if_so h13).1.2.2 (by decide) f_RX10_270 rfl dX10_copy_44 ?_
        replace hf := bd_so hf
        obtain ⟨_, h14, hf⟩ := hf
        replace hf := bd_so hf
        obtain ⟨x16, h15, hf⟩ := hf
        refine g_callVi (ci := 7) (As := [.int (rI S y7 0)]) (rest := []) C g_us hW hl.1 (c_X7_refusal l E S y11 (rI S y7 0) _ h15) rfl (if_so h14).1.1 (if_so h14).1.2.1 (if_so h14).1.2.2 k_RX10_101 rfl ⟨rfl, rfl⟩ ⟨Nat.le_of_ble_eq_true rfl, Nat.le_of_ble_eq_true rfl⟩ ⟨Nat.zero_le _, Nat.zero_le _⟩ _ rfl (Nat.le_of_ble_eq_true rfl) dX10_copy_47 (fun H locs hW => ?_)
        refine lv_istore (lv' := [(7, .int x16), (6, .ref (E.ad y7)), (0, .ref (E.ad 0)), (1, .int a1), (2, .int a2), (3, .int a3), (4, .int a4), (5, .int a5)]) hx hb dX10_copy_50 hl (by decide) rfl (fun ls hl => ?_)
        refine lv_iload hx hb dX10_copy_52 (lv_at hl 0 rfl) ?_
        refine lv_if_eq (tgt := 60) hx hb dX10_copy_54 (by decide) (fun c17 => ?_) (fun c17 => ?_)
        · replace hf := ift_ hf c17
          refine lv_aload hx hb dX10_copy_60 (lv_at hl 1 rfl) ?_
          refine lv_iload_n hx hb dX10_copy_62 rfl (lv_at hl 4 rfl) ?_
          refine lv_iload hx hb dX10_copy_63 (lv_at hl 7 rfl) ?_
          replace hf := bd_so hf
          obtain ⟨_, h18, hf⟩ := hf
          replace hf := bd_so hf
          obtain ⟨x20, h19, hf⟩ := hf
          refine g_callVi (ci := 7) (As := [.int a2, .int a5]) (rest := []) C g_us hW hl.1 (c_X7_holds l E S y7 a2 a5 _ h19) rfl (if_so h18).1.1 (if_so h18).1.2.1 (if_so h18).1.2.2 k_RX10_104 rfl ⟨rfl, rfl⟩ ⟨Nat.le_of_ble_eq_true rfl, Nat.le_of_ble_eq_true rfl⟩ ⟨Nat.zero_le _, Nat.zero_le _⟩ _ rfl (Nat.le_of_ble_eq_true rfl) dX10_copy_65 (fun H locs hW => ?_)
          refine lv_if_eq (tgt := 87) hx hb dX10_copy_68 (by decide) (fun c21 => ?_) (fun c21 => ?_)
          · replace hf := ift_ hf c21
            refine lv_bipush (v := (-13)) hx hb dX10_copy_87 (by decide) ?_
            obtain ⟨rfl, rfl⟩ := so2 hf
            exact kR _ _ _ _ hW dX10_copy_89
          · replace hf := iff_ hf c21
            refine lv_aload_n hx hb dX10_copy_71 rfl (lv_at hl 2 rfl) ?_
            refine g_get (ci := 10) (k := 3) (val := .ref (E.ad 15)) C g_us hW rfl rfl rfl (in_sid _ rfl) (by decide) f_RX10_30 rfl dX10_copy_72 ?_
            refine lv_iload_n hx hb dX10_copy_75 rfl (lv_at hl 5 rfl) ?_
            replace hf := bd_so hf
            obtain ⟨y22, h23, hf⟩ := hf
            refine g_sht C hW h23 dX10_copy_76 ?_
            refine lv_iload hx hb dX10_copy_77 (lv_at hl 6 rfl) ?_
            refine lv_iload hx hb dX10_copy_79 (lv_at hl 7 rfl) ?_
            replace hf := bd_so hf
            obtain ⟨_, h24, hf⟩ := hf
            replace hf := bd_so hf
            obtain ⟨x26, h25, hf⟩ := hf
            refine g_callVi (ci := 7) (As := [.int a4, .int a5]) (rest := []) C g_us hW hl.1 (c_X7_holds l E S y22 a4 a5 _ h25) rfl (if_so h24).1.1 (if_so h24).1.2.1 (if_so h24).1.2.2 k_RX10_104 rfl ⟨rfl, rfl⟩ ⟨Nat.le_of_ble_eq_true rfl, Nat.le_of_ble_eq_true rfl⟩ ⟨Nat.zero_le _, Nat.zero_le _⟩ _ rfl (Nat.le_of_ble_eq_true rfl) dX10_copy_81 (fun H locs hW => ?_)
            refine lv_if_ne (tgt := 90) hx hb dX10_copy_84 (by decide) (fun c27 => ?_) (fun c27 => ?_)
            · replace hf := iff_ hf c27
              refine lv_aload hx hb dX10_copy_90 (lv_at hl 1 rfl) ?_
              replace hf := bd_so hf
              obtain ⟨_, h28, hf⟩ := hf
              refine g_get (ci := 7) (k := 2) (val := .ref (E.ad (y7 + 1))) C g_us hW rfl (if_so h28).1.1 (if_so h28).1.2.1 (if_so h28).1.2.2 (by decide) f_RX10_279 rfl dX10_copy_92 ?_
              refine lv_iload_n hx hb dX10_copy_95 rfl (lv_at hl 4 rfl) ?_
              refine lv_aload_n hx hb dX10_copy_96 rfl (lv_at hl 2 rfl) ?_
              refine g_get (ci := 10) (k := 3) (val := .ref (E.ad 15)) C g_us hW rfl rfl rfl (in_sid _ rfl) (by decide) f_RX10_30 rfl dX10_copy_97 ?_
              refine lv_iload_n hx hb dX10_copy_100 rfl (lv_at hl 5 rfl) ?_
              replace hf := bd_so hf
              obtain ⟨y29, h30, hf⟩ := hf
              refine g_sht C hW h30 dX10_copy_101 ?_
              replace hf := bd_so hf
              obtain ⟨_, h31, hf⟩ := hf
              refine g_get (ci := 7) (k := 2) (val := .ref (E.ad (y29 + 1))) C g_us hW rfl (if_so h31).1.1 (if_so h31).1.2.1 (if_so h31).1.2.2 (by decide) f_RX10_279 rfl dX10_copy_102 ?_
              refine lv_iload hx hb dX10_copy_105 (lv_at hl 6 rfl) ?_
              refine lv_iload hx hb dX10_copy_107 (lv_at hl 7 rfl) ?_
              replace hf := bd_so hf
              obtain ⟨S32, h33, hf⟩ := hf
              refine g_copyI C g_us hW hl.1 k_RX10_282 (Nat.le_of_ble_eq_true rfl) (Nat.le_of_ble_eq_true rfl) h33 dX10_copy_109 (fun H locs hW => ?_)
              refine lv_iload hx hb dX10_copy_112 (lv_at hl 7 rfl) ?_
              obtain ⟨rfl, rfl⟩ := so2 hf
              exact kR _ _ _ _ hW dX10_copy_114
            · replace hf := ift_ hf c27
              refine lv_bipush (v := (-13)) hx hb dX10_copy_87 (by decide) ?_
              obtain ⟨rfl, rfl⟩ := so2 hf
              exact kR _ _ _ _ hW dX10_copy_89
        · replace hf := iff_ hf c17
          refine lv_iload hx hb dX10_copy_57 (lv_at hl 0 rfl) ?_
          obtain ⟨rfl, rfl⟩ := so2 hf
          exact kR _ _ _ _ hW dX10_copy_59
      · replace hf := ift_ hf c10
        refine lv_bipush (v := (-11)) hx hb dX10_copy_33 (by decide) ?_
        obtain ⟨rfl, rfl⟩ := so2 hf
        exact kR _ _ _ _ hW dX10_copy_35
    · replace hf := ift_ hf c6
      refine lv_iconst (v := (-1)) hx hb dX10_copy_14 (by decide) ?_
      obtain ⟨rfl, rfl⟩ := so2 hf
      exact kR _ _ _ _ hW dX10_copy_15
