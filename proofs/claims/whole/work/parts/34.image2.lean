theorem grp_in {S : St} {n : Nat} (hn : n = 0 ∨ n = 1) (hz : rR S 10 n = 0) {id : Nat} (h : id ∈ ids (newI S n)) : (42 + 9 * n ≤ id ∧ id < 51 + 9 * n) ∨ id ∈ ids S := by
  unfold ids at h
  rcases List.mem_append.mp h with h | h
  · exact Or.inr (List.mem_append_left _ h)
  · rcases List.mem_append.mp h with h | h <;> split at h
    · cases h
    · rename_i hr
      rw [List.mem_range'_1] at h
      rcases hn with rfl | rfl
      · left; omega
      · right
        refine List.mem_append_right _ (List.mem_append_left _ ?_)
        have hr : ¬ rR S 10 0 = 0 := hr
        rw [if_neg hr, List.mem_range'_1]
        omega
    · cases h
    · rename_i hr
      rw [List.mem_range'_1] at h
      rcases hn with rfl | rfl
      · right
        refine List.mem_append_right _ (List.mem_append_right _ ?_)
        have hr : ¬ rR S 10 1 = 0 := hr
        rw [if_neg hr, List.mem_range'_1]
        omega
      · left; omega
theorem grp_out {S : St} {n : Nat} (hn : n = 0 ∨ n = 1) (hz : rR S 10 n = 0) {id : Nat} (hid : id ∈ ids S) : ¬ (42 + 9 * n ≤ id ∧ id < 51 + 9 * n) := by
  have h := hid
  unfold ids at h
  rcases List.mem_append.mp h with h | h
  · have := sid_out h
    omega
  · rcases List.mem_append.mp h with h | h <;> split at h
    · cases h
    · rw [List.mem_range'_1] at h
      rcases hn with rfl | rfl
      · exact absurd hz (by assumption)
      · omega
    · cases h
    · rw [List.mem_range'_1] at h
      rcases hn with rfl | rfl
      · omega
      · exact absurd hz (by assumption)
abbrev gad (E : En) (n : Nat) (u : Nat → Nat) : En := Ea E (fun x => if 42 + 9 * n ≤ x ∧ x < 51 + 9 * n then u (x - (42 + 9 * n)) else E.ad x)
theorem img_new0 (E : En) (S : St) (u : Nat → Nat) : (List.range' 42 9).map (fun id => ((gad E 0 u).ad id, cellOf (gad E 0 u) (newI S 0) id)) = cs_X1 E u := rfl
theorem img_new1 (E : En) (S : St) (u : Nat → Nat) : (List.range' 51 9).map (fun id => ((gad E 1 u).ad id, cellOf (gad E 1 u) (newI S 1) id)) = cs_X1 E u := rfl
theorem img_new {E : En} {S : St} {u : Nat → Nat} {n id : Nat} (hn : n = 0 ∨ n = 1) (h : 42 + 9 * n ≤ id ∧ id < 51 + 9 * n) : ((gad E n u).ad id, cellOf (gad E n u) (newI S n) id) ∈ cs_X1 E u := by
  rcases hn with rfl | rfl
  · rw [← img_new0 E S u]
    exact List.mem_map.mpr ⟨id, List.mem_range'_1.mpr (by omega), rfl⟩
  · rw [← img_new1 E S u]
    exact List.mem_map.mpr ⟨id, List.mem_range'_1.mpr (by omega), rfl⟩
/-- the world behind the store of a new image -/
theorem img_world {E : En} {S : St} {s : State} {H : Heap} {locs : List Loc} {u : Nat → Nat} {n j : Nat} (hn : n = 0 ∨ n = 1) (hz : rR S 10 n = 0) (hok : okR S = true) (hj : (ids S)[j]? = some 10)
    (hP : va_P E.1 cl ((wsOf E S ++ cs_X1 E u).set j (E.ad 10, .inl (E.ar 5, 2, .inr (.inr (.inr (.inr (va_up (fun k => if rR S 10 k = 0 then none else some (E.ad (rR S 10 k))) n (some (u 0))))))))) H)
    (hD : va_D (Ab E) ((wsOf E S ++ cs_X1 E u).set j (E.ad 10, .inl (E.ar 5, 2, .inr (.inr (.inr (.inr (va_up (fun k => if rR S 10 k = 0 then none else some (E.ad (rR S 10 k))) n (some (u 0)))))))))) (hS : va_S (Ab E) s.heap H locs) : Ww (gad E n u) (newI S n) s H locs := by
  have hjl : j < (wsOf E S).length := by
    rw [wsOf, List.length_map]
    exact (List.getElem?_eq_some_iff.mp hj).1
  rw [List.set_append_left _ _ hjl] at hP hD
  have hPa := P_all hP
  have old : ∀ id, id ∈ ids S → id ≠ 10 → (E.ad id, cellOf E S id) ∈ (wsOf E S).set j (E.ad 10, .inl (E.ar 5, 2, .inr (.inr (.inr (.inr (va_up (fun k => if rR S 10 k = 0 then none else some (E.ad (rR S 10 k))) n (some (u 0)))))))) ++ cs_X1 E u := by
    intro id hid h10
    obtain ⟨k, hk, hk2⟩ := ws_at E hid
    refine List.mem_append_left _ (List.mem_of_getElem? (i := k) ?_)
    rw [List.getElem?_set_ne ?_]
    · exact hk
    · intro e
      subst e
      exact h10 (Option.some.inj (hk2.symm.trans hj))
  have ten : ((E.ad 10, .inl (E.ar 5, 2, .inr (.inr (.inr (.inr (va_up (fun k => if rR S 10 k = 0 then none else some (E.ad (rR S 10 k))) n (some (u 0)))))))) : Nat × va_E) ∈ (wsOf E S).set j (E.ad 10, .inl (E.ar 5, 2, .inr (.inr (.inr (.inr (va_up (fun k => if rR S 10 k = 0 then none else some (E.ad (rR S 10 k))) n (some (u 0)))))))) ++ cs_X1 E u :=
    List.mem_append_left _ (List.mem_of_getElem? (i := j) (List.getElem?_set_self hjl))
  have adr : ∀ id, id ∈ ids (newI S n) → ∃ (i : Nat) (c : va_E), ((wsOf E S).set j (E.ad 10, .inl (E.ar 5, 2, .inr (.inr (.inr (.inr (va_up (fun k => if rR S 10 k = 0 then none else some (E.ad (rR S 10 k))) n (some (u 0)))))))) ++ cs_X1 E u)[i]? = some ((gad E n u).ad id, c) ∧ (i < (wsOf E S).length → (ids S)[i]? = some id) ∧ ((wsOf E S).length ≤ i → id = 42 + 9 * n + (i - (wsOf E S).length)) := by
    intro id hid
    rcases grp_in hn hz hid with h | h
    · refine ⟨(wsOf E S).length + (id - (42 + 9 * n)), cellOf (gad E n u) (newI S n) id, ?_, fun z => by omega, fun _ => by omega⟩
      rw [List.getElem?_append_right (by rw [List.length_set]; omega), List.length_set, Nat.add_sub_cancel_left]
      rcases hn with rfl | rfl
      · rw [← img_new0 E S u, List.getElem?_map, List.getElem?_range' (by omega)]
        show some _ = some _
        have e : 42 + 1 * (id - (42 + 9 * 0)) = id := by omega
        rw [e]
      · rw [← img_new1 E S u, List.getElem?_map, List.getElem?_range' (by omega)]
        show some _ = some _
        have e : 51 + 1 * (id - (42 + 9 * 1)) = id := by omega
        rw [e]
    · have e : (gad E n u).ad id = E.ad id := if_neg (grp_out hn hz h)
      rw [e]
      obtain ⟨k, hk, hk2⟩ := ws_at E h
      have hkl : k < (wsOf E S).length := (List.getElem?_eq_some_iff.mp hk).1
      by_cases hkj : k = j
      · subst hkj
        have e10 : id = 10 := Option.some.inj (hk2.symm.trans hj)
        subst e10
        exact ⟨k, _, by rw [List.getElem?_append_left (by rw [List.length_set]; exact hkl), List.getElem?_set_self hkl], fun _ => hk2, fun z => by omega⟩
      · exact ⟨k, _, by rw [List.getElem?_append_left (by rw [List.length_set]; exact hkl), List.getElem?_set_ne (fun z => hkj z.symm)]; exact hk, fun _ => hk2, fun z => by omega⟩
  refine ⟨P_of fun q hq => ?_, D_of (fun a b ha hb hab => ?_) (fun a ha => ?_), hS⟩
  · obtain ⟨id, hid, rfl⟩ := List.mem_map.mp hq
    rcases grp_in hn hz hid with h | h
    · exact hPa _ (List.mem_append_right _ (img_new (S := S) hn h))
    · have e : (gad E n u).ad id = E.ad id := if_neg (grp_out hn hz h)
      rw [e]
      by_cases h10 : id = 10
      · subst h10
        refine arr_q (hPa _ ten) (fun k hk => ?_)
        show va_up _ n (some (u 0)) k = if rR (newI S n) 10 k = 0 then none else some ((gad E n u).ad (rR (newI S n) 10 k))
        simp only [okR, Bool.and_eq_true, Bool.or_eq_true, decide_eq_true_eq] at hok
        obtain ⟨⟨-, o5⟩, o6⟩ := hok
        by_cases hkn : k = n
        · subst hkn
          have e1 : rR (newI S k) 10 k = 42 + 9 * k := if_pos ⟨rfl, rfl⟩
          rw [e1, va_up_self, if_neg (by omega)]
          show some (u 0) = some (if 42 + 9 * k ≤ 42 + 9 * k ∧ 42 + 9 * k < 51 + 9 * k then u (42 + 9 * k - (42 + 9 * k)) else _)
          rw [if_pos (by omega), Nat.sub_self]
        · have e1 : rR (newI S n) 10 k = rR S 10 k := if_neg (fun z => hkn z.2)
          rw [e1, va_up_ne _ _ hkn]
          have hk : k < 2 := hk
          have e2 : (gad E n u).ad (rR S 10 k) = if 42 + 9 * n ≤ rR S 10 k ∧ rR S 10 k < 51 + 9 * n then u (rR S 10 k - (42 + 9 * n)) else E.ad (rR S 10 k) := rfl
          rw [e2]
          by_cases hr : rR S 10 k = 0
          · rw [if_pos hr, if_pos hr]
          · rw [if_neg hr, if_neg hr, if_neg]
            rcases hn with rfl | rfl
            · have : k = 1 := by omega
              subst this
              have := o6.resolve_left hr
              omega
            · have : k = 0 := by omega
              subst this
              have := o5.resolve_left hr
              omega
      · exact img_old hn hz hok h h10 (hPa _ (old id h h10))
  · obtain ⟨i1, c1, h1, p1, q1⟩ := adr a ha
    obtain ⟨i2, c2, h2, p2, q2⟩ := adr b hb
    have e := hD.1 i1 i2 _ _ h1 h2 hab
    subst e
    by_cases hl : i1 < (wsOf E S).length
    · exact Option.some.inj ((p1 hl).symm.trans (p2 hl))
    · have := q1 (by omega)
      have := q2 (by omega)
      omega
  · obtain ⟨i1, c1, h1, -, -⟩ := adr a ha
    exact hD.2 i1 _ h1
abbrev rm_X10_image : Room := { frames := 4, cells := 9, slots := 254, locals := 130 }
set_option maxHeartbeats 4000000 in
set_option maxRecDepth 100000 in
theorem c_X10_image (l : Launch) (E : En) (S : St) (a1 : Int32) (r : Int32) (S1 : St) (hf : X10_image S a1 = some (r, S1)) : Met l yX10_image (Cond.code yX10_image cX10_image 2 (some .int) :: UU) rm_X10_image (va_Pc [.ref (E.ad 0), .int a1] (Pw E S)) (va_Qi (fun (x : Int32) (u : St × (Nat → Nat)) => x = r ∧ u.1 = S1 ∧ ∀ id, id ∈ ids S → u.2 id = E.ad id) (fun u t => Pw (Ea E u.2) u.1 t) (Ab E)) 9 254 (Ab E) := by
  refine Met.ofW (cc := cX10_image) (maxL := 2) (ret := some .int) (by decide) rfl ?_
  intro p e s m args below meth c s₁ B hml hv
  obtain ⟨rfl, h1, h2, h3, h4⟩ := hv
  have hl := lv_entry [Value.ref (E.ad 0), .int a1] (n := 2) (Nat.le_of_ble_eq_true rfl)
  rw [lg_entry_eq]
  have C : Cx E p s m [Value.ref (E.ad 0), .int a1].toArray c cX10_image 2 yX10_image.cls (Cond.code yX10_image cX10_image 2 (some .int) :: UU) := ⟨⟨B.exec, B.bytes, hml, findClass_of_methodNamed B.named, atoms_spec (ws := Cond.code yX10_image cX10_image 2 (some .int) :: UU) B.pre⟩, h3, h4⟩
  have hbase : ∀ q, s.heap.size ≤ q → Ab E q := fun q hq => by
    obtain ⟨j, hj, -⟩ := ws_at E (in_sid (id := 0) S rfl)
    have g1 := (h1 j _ hj).lt
    have g2 : E.2.2.2.1 ≤ E.ad 0 := h2.2 j _ hj
    exact Nat.le_trans g2 (Nat.le_trans (Nat.le_of_lt g1) hq)
  have kR : ∀ (ad1 : Nat → Nat) (H : Heap) (locs : List Loc) (pc : Nat) (ls : Array Slot) (cells slots : Nat), cells ≤ 9 → slots ≤ 254 → Ww (Ea E ad1) S1 s H locs → (∀ id, id ∈ ids S → ad1 id = E.ad id) → decode cX10_image pc = .ok (.ireturn, 1) → W p l e rm_X10_image s m [Value.ref (E.ad 0), .int a1].toArray below meth c H locs cells slots (MQ below (va_Qi (fun (x : Int32) (u : St × (Nat → Nat)) => x = r ∧ u.1 = S1 ∧ ∀ id, id ∈ ids S → u.2 id = E.ad id) (fun u t => Pw (Ea E u.2) u.1 t) (Ab E)) [Value.ref (E.ad 0), .int a1].toArray s 9 254 (Ab E)) (F0 m pc ls [.int r]) := by
    intro ad1 H locs pc ls cells slots hc hs hW had hdg
    refine W.widen hc hs ?_
    exact W.iret C.1.1 C.1.2.1 B.returns (fun t ht hw => ⟨⟨r, (S1, ad1), rfl, ⟨rfl, rfl, had⟩, Pw_of (E := Ea E ad1) C.2.1 C.2.2 hW ht hw⟩, hW.2.2.F ht⟩) hW.2.2.2.2 hdg B.notSynchronized
  have hW : Ww E S s s.heap [] := ⟨h1, h2, va_S.rf⟩
  generalize (lg_sl [Value.ref (E.ad 0), .int a1] ++ List.replicate (2 - (lg_sl [Value.ref (E.ad 0), .int a1]).length) Slot.unset).toArray = ls at hl ⊢
  have hl : lv_has ls 2 [(0, .ref (E.ad 0)), (1, .int a1)] := hl
  obtain ⟨⟨hx, hb, -, hown, hts⟩, hK, hT⟩ := id C
  generalize MQ below (va_Qi (fun (x : Int32) (u : St × (Nat → Nat)) => x = r ∧ u.1 = S1 ∧ ∀ id, id ∈ ids S → u.2 id = E.ad id) (fun u t => Pw (Ea E u.2) u.1 t) (Ab E)) [Value.ref (E.ad 0), .int a1].toArray s 9 254 (Ab E) = Q at kR ⊢
  generalize [Value.ref (E.ad 0), .int a1].toArray = args at C kR hts ⊢
  unfold X10_image at hf
  refine lv_iload_n hx hb dX10_image_0 rfl (lv_at hl 1 rfl) ?_
  refine lv_if_lt (tgt := 9) hx hb dX10_image_1 (by decide) (fun c1 => ?_) (fun c1 => ?_)
  · replace hf := ift_ hf c1
    refine lv_iconst (v := (-1)) hx hb dX10_image_9 (by decide) ?_
    obtain ⟨rfl, rfl⟩ := so2 hf
    exact kR E.ad _ _ _ _ _ _ (Nat.zero_le _) (Nat.zero_le _) hW (fun _ _ => rfl) dX10_image_10
  · replace hf := iff_ hf c1
    refine lv_iload_n hx hb dX10_image_4 rfl (lv_at hl 1 rfl) ?_
    refine lv_iconst (v := 2) hx hb dX10_image_5 (by decide) ?_
    refine lv_icmp_lt (tgt := 11) hx hb dX10_image_6 (by decide) (fun c2 => ?_) (fun c2 => ?_)
    · replace hf := ift_ hf c2
      obtain ⟨y, h5, hf⟩ := bd_so hf
      obtain ⟨S2, h6, hf⟩ := bd_so hf
      obtain ⟨rfl, rfl⟩ := so2 hf
      refine lv_aload_n hx hb dX10_image_11 rfl (lv_at hl 0 rfl) ?_
      refine g_get (ci := 10) (k := 1) (val := .ref (E.ad 10)) C g_us hW rfl rfl rfl (in_sid _ rfl) (by decide) f_RX10_16 rfl dX10_image_12 ?_
      refine lv_iload_n hx hb dX10_image_15 rfl (lv_at hl 1 rfl) ?_
      by_cases hy : y = 0
      · replace h6 := ift_ h6 hy
        subst hy
        refine g_imgN C hW h5 dX10_image_16 ?_
        refine lv_ifnonnullN hx hb dX10_image_17 ?_
        obtain ⟨hin, hz⟩ := if_so h5
        have hok : okR S = true := by
          by_cases z : okR S = true
          · exact z
          · rw [if_neg z] at h6; cases h6
        replace h6 := ift_ h6 hok
        have hn : a1.toNatClampNeg = 0 ∨ a1.toNatClampNeg = 1 := by
          have h := inB_in hin
          have : a1.toNatClampNeg < 2 := Nat.not_le.mp fun q => h (Or.inr q)
          omega
        refine lv_aload_n hx hb dX10_image_20 rfl (lv_at hl 0 rfl) ?_
        refine g_get (ci := 10) (k := 1) (val := .ref (E.ad 10)) C g_us hW rfl rfl rfl (in_sid _ rfl) (by decide) f_RX10_16 rfl dX10_image_21 ?_
        refine lv_iload_n hx hb dX10_image_24 rfl (lv_at hl 1 rfl) ?_
        have Cc1 : Cc E p s m args c cX10_image 2 yX10_image.cls (Cond.code yX10_image cX10_image 2 (some .int) :: UU) := ⟨C.1, C.2.1, C.2.2.2⟩
        refine n_new (ci := 1) (fs := [.null, .null, .null, .int 0]) Cc1 g_us rfl w_RX10_7 hW.1 hW.2.1 hW.2.2 hbase (by decide) (Nat.le_of_ble_eq_true rfl) (Nat.le_of_ble_eq_true rfl) dX10_image_25 (fun q H hP hD hS => ?_)
        refine lv_dup hx hb dX10_image_28 rfl ?_
        refine n_ctor (rest := [.ref q, .int a1, .ref (E.ad 10)]) Cc1 g_us hl.1 (fun sz => c_X1_init l E q sz) n_RX10_9 hP hD hS hbase ⟨rfl, rfl⟩ ⟨Nat.le_of_ble_eq_true rfl, Nat.le_of_ble_eq_true rfl⟩ ⟨Nat.le_of_ble_eq_true rfl, Nat.le_of_ble_eq_true rfl⟩ (Nat.le_of_ble_eq_true rfl) dX10_image_29 (fun u H locs hu hP1 hD1 hS => ?_)
        subst hu
        obtain ⟨j, hj, hj2⟩ := ws_at E (in_sid (id := 10) S rfl)
        have hjl : j < (wsOf E S).length := (List.getElem?_eq_some_iff.mp hj).1
        have hq0 : (wsOf E S ++ cs_X1 E u)[j]? = some (E.ad 10, .inl (E.ar 5, 2, .inr (.inr (.inr (.inr (fun k => if rR S 10 k = 0 then none else some (E.ad (rR S 10 k)))))))) := by rw [List.getElem?_append_left hjl]; exact hj
        have hqk : (wsOf E S ++ cs_X1 E u)[(wsOf E S).length]? = some (u 0, .inr (1, [.ref (u 1), .ref (u 5), .ref (u 7), .int 21])) := by rw [List.getElem?_append_right (Nat.le_refl _), Nat.sub_self]; rfl
        refine va_astq hx hb hK hP1 hD1 hS j 5 (wsOf E S).length 1 hq0 rfl hqk rfl (inB_in hin) dX10_image_32 (fun H locs hP hD hS => ?_)
        have hW2 := img_world hn hz hok hj2 hP hD hS
        have C2 : Cx (gad E a1.toNatClampNeg u) p s m args c cX10_image 2 yX10_image.cls (Cond.code yX10_image cX10_image 2 (some .int) :: UU) := C
        have e0 : (gad E a1.toNatClampNeg u).ad 0 = E.ad 0 := if_neg (by omega)
        have h5b : ldM (newI S a1.toNatClampNeg) a1 = some (42 + 9 * a1.toNatClampNeg) := by
          unfold ldM
          rw [if_pos hin]
          exact congrArg some (if_pos ⟨rfl, rfl⟩)
        rw [← e0] at hl
        refine lv_aload_n hx hb dX10_image_33 rfl (lv_at hl 0 rfl) ?_
        refine g_get (ci := 10) (k := 1) (val := .ref ((gad E a1.toNatClampNeg u).ad 10)) C2 g_us hW2 rfl rfl rfl (in_sid _ rfl) (by decide) f_RX10_16 rfl dX10_image_34 ?_
        refine lv_iload_n hx hb dX10_image_37 rfl (lv_at hl 1 rfl) ?_
        refine g_imgR C2 hW2 h5b (by omega) dX10_image_38 ?_
        refine lv_aload_n hx hb dX10_image_39 rfl (lv_at hl 0 rfl) ?_
        refine g_get (ci := 10) (k := 0) (val := .ref ((gad E a1.toNatClampNeg u).ad 1)) C2 g_us hW2 rfl rfl rfl (in_sid _ rfl) (by decide) f_RX10_10 rfl dX10_image_40 ?_
        have h6b := h6
        unfold X1_take at h6b
        obtain ⟨u0, hck, -⟩ := bd_so h6b
        have hck := (if_so hck).1
        refine g_callVv (ci := 1) (As := [.ref ((gad E a1.toNatClampNeg u).ad 1)]) (rest := []) C2 g_us hW2 hl.1 (c_X1_take l _ _ _ 1 _ h6) rfl hck.1 hck.2.1 hck.2.2 k_RX10_264 rfl ⟨rfl, rfl⟩ ⟨Nat.le_of_ble_eq_true rfl, Nat.le_of_ble_eq_true rfl⟩ ⟨Nat.le_of_ble_eq_true rfl, Nat.le_of_ble_eq_true rfl⟩ _ rfl (Nat.le_of_ble_eq_true rfl) dX10_image_43 (fun H locs hW => ?_)
        refine lv_iconst (v := 1) hx hb dX10_image_46 (by decide) ?_
        exact kR _ _ _ _ _ _ _ (Nat.le_of_ble_eq_true rfl) (Nat.le_of_ble_eq_true rfl) hW (fun id hid => if_neg (grp_out hn hz hid)) dX10_image_47
      · replace h6 := iff_ h6 hy
        obtain ⟨u0, hck, h6⟩ := bd_so h6
        have hck := (if_so hck).1
        refine g_imgR C hW h5 hy dX10_image_16 ?_
        refine lv_ifnonnull (tgt := 33) hx hb dX10_image_17 (by decide) ?_
        refine lv_aload_n hx hb dX10_image_33 rfl (lv_at hl 0 rfl) ?_
        refine g_get (ci := 10) (k := 1) (val := .ref (E.ad 10)) C g_us hW rfl rfl rfl (in_sid _ rfl) (by decide) f_RX10_16 rfl dX10_image_34 ?_
        refine lv_iload_n hx hb dX10_image_37 rfl (lv_at hl 1 rfl) ?_
        refine g_imgR C hW h5 hy dX10_image_38 ?_
        refine lv_aload_n hx hb dX10_image_39 rfl (lv_at hl 0 rfl) ?_
        refine g_get (ci := 10) (k := 0) (val := .ref (E.ad 1)) C g_us hW rfl rfl rfl (in_sid _ rfl) (by decide) f_RX10_10 rfl dX10_image_40 ?_
        refine g_callVv (ci := 1) (As := [.ref (E.ad 1)]) (rest := []) C g_us hW hl.1 (c_X1_take l E S y 1 _ h6) rfl hck.1 hck.2.1 hck.2.2 k_RX10_264 rfl ⟨rfl, rfl⟩ ⟨Nat.le_of_ble_eq_true rfl, Nat.le_of_ble_eq_true rfl⟩ ⟨Nat.zero_le _, Nat.zero_le _⟩ _ rfl (Nat.le_of_ble_eq_true rfl) dX10_image_43 (fun H locs hW => ?_)
        refine lv_iconst (v := 1) hx hb dX10_image_46 (by decide) ?_
        exact kR E.ad _ _ _ _ _ _ (Nat.zero_le _) (Nat.zero_le _) hW (fun _ _ => rfl) dX10_image_47
    · replace hf := iff_ hf c2
      refine lv_iconst (v := (-1)) hx hb dX10_image_9 (by decide) ?_
      obtain ⟨rfl, rfl⟩ := so2 hf
      exact kR E.ad _ _ _ _ _ _ (Nat.zero_le _) (Nat.zero_le _) hW (fun _ _ => rfl) dX10_image_10
