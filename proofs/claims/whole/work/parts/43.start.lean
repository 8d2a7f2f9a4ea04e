/-! the law's start: the two objects are made, and the world stands -/
def S0 : St := (fun x j => if x = 61 then upd (upd (upd (fun _ => 0) ((128 : Int32).toNatClampNeg) 500) ((129 : Int32).toNatClampNeg) 21) ((131 : Int32).toNatClampNeg) 7 j else if x = 77 then upd (upd (upd (upd (fun _ => 0) ((0 : Int32).toNatClampNeg) (-1)) ((1 : Int32).toNatClampNeg) (-1)) ((2 : Int32).toNatClampNeg) (-1)) ((3 : Int32).toNatClampNeg) (-1) j else if x = 1 ∧ j = 3 then 21 else if x = 2 ∧ j = 1 then 500 else if x = 2 ∧ j = 2 then 7 else if x = 16 ∧ j = 0 then -1 else if x = 18 ∧ j = 0 then -1 else if x = 20 ∧ j = 0 then -1 else if x = 22 ∧ j = 0 then -1 else 0,
  fun _ _ => 0,
  fun x j => if x = 24 ∧ j = 0 then 25 else if x = 24 ∧ j = 1 then 26 else if x = 32 ∧ j = 0 then 33 else if x = 32 ∧ j = 1 then 34 else 0)
abbrev ad0 (u w : Nat → Nat) : Nat → Nat := fun id => if id < 42 then u id else w (id - 60)
theorem st_m (E : En) (u w : Nat → Nat) : (List.range' 60 21).map (fun id => ((Ea E (ad0 u w)).ad id, cellOf (Ea E (ad0 u w)) S0 id)) = cs_X11 E w := rfl
theorem st_x (E : En) (u w : Nat → Nat) : (List.range' 0 42).map (fun id => ((Ea E (ad0 u w)).ad id, cellOf (Ea E (ad0 u w)) S0 id)) = (cs_X10 E u).set 15 (u 15, .inl (E.ar 6, 4, .inr (.inr (.inr (.inr (fun k => some (ad0 u w (16 + 2 * k)))))))) := rfl
theorem k_RL_9 : lkL RL 9 yX10_init cX10_init 1 := ⟨⟨inUU (by decide +kernel), inUU (by decide +kernel), inUU (by decide +kernel), inUU (by decide +kernel)⟩, rfl, by decide +kernel⟩
theorem k_RL_12 : lkL RL 12 yX11_init cX11_init 2 := ⟨⟨inUU (by decide +kernel), inUU (by decide +kernel), inUU (by decide +kernel), inUU (by decide +kernel)⟩, rfl, by decide +kernel⟩
theorem w_RL_7 : Cond.classLink RL 7 RX10 ∈ UU ∧ Cond.instantiable RX10 8 ∈ UU ∧ Cond.initialized RX10 ∈ UU := ⟨inUU (by decide +kernel), inUU (by decide +kernel), inUU (by decide +kernel)⟩
theorem w_RL_10 : Cond.classLink RL 10 RX11 ∈ UU ∧ Cond.instantiable RX11 22 ∈ UU ∧ Cond.initialized RX11 ∈ UU := ⟨inUU (by decide +kernel), inUU (by decide +kernel), inUU (by decide +kernel)⟩
theorem st_world {E : En} {s : State} {H : Heap} {locs : List Loc} {u w : Nat → Nat} (hP : va_P E.1 cl (cs_X10 E u ++ cs_X11 E w) H) (hD : va_D (Ab E) (cs_X10 E u ++ cs_X11 E w)) (hS : va_S (Ab E) s.heap H locs) : Ww (Ea E (ad0 u w)) S0 s H locs := by
  have hl : (15 : Nat) < (cs_X10 E u).length := Nat.le_of_ble_eq_true rfl
  have h15 : (cs_X10 E u ++ cs_X11 E w)[15]? = some (u 15, .inl (E.ar 6, 4, .inr (.inr (.inr (.inr (va_up (va_up (va_up (va_up (fun _ => none) ((0 : Int32).toNatClampNeg) (some (u 16))) ((1 : Int32).toNatClampNeg) (some (u 18))) ((2 : Int32).toNatClampNeg) (some (u 20))) ((3 : Int32).toNatClampNeg) (some (u 22)))))))) := rfl
  have hw : wsOf (Ea E (ad0 u w)) S0 = (cs_X10 E u ++ cs_X11 E w).set 15 (u 15, .inl (E.ar 6, 4, .inr (.inr (.inr (.inr (fun k => some (ad0 u w (16 + 2 * k)))))))) := by
    rw [List.set_append_left _ _ hl, ← st_x E u w, ← st_m E u w]
    unfold wsOf
    rw [show ids S0 = List.range' 0 42 ++ List.range' 60 21 from rfl, List.map_append]
  refine ⟨?_, ?_, hS⟩
  · rw [hw]
    refine P_of fun q hq => ?_
    obtain ⟨k, hk⟩ := List.getElem?_of_mem hq
    by_cases h : 15 = k
    · subst h
      rw [List.getElem?_set_self (by rw [List.length_append]; omega)] at hk
      obtain rfl := Option.some.inj hk
      refine arr_q (hP 15 _ h15) (fun k hk => ?_)
      have hk : k = 0 ∨ k = 1 ∨ k = 2 ∨ k = 3 := by omega
      rcases hk with rfl | rfl | rfl | rfl <;> rfl
    · rw [List.getElem?_set_ne h] at hk
      exact hP k q hk
  · rw [hw]
    exact hD.set h15
theorem tb_of {args : Array Value} {s : State} {tm : Term} {f : Nat → Int32} (harr : (Cond.arrayOf tm .int).before args s = true) (hlen : (Cond.eq (.length tm) (.int 6)).before args s = true) (hel : ∀ j : Nat, j < 6 → (Cond.eq (.elem tm (.int (Int32.ofNat j))) (.int (f j))).before args s = true) : ∃ t : Nat, tm.eval args s none [] s = some (.ref t) ∧ va_X t 6 f s s.heap ∧ t < s.heap.size := by
  have hlen := va_eqt hlen
  obtain ⟨t, ht, cell, h1, h2, h3, h4, h5, h6, -⟩ := va_Tof (A := fun _ => False) (N := 6) (f := fun j => .int (f j)) (by decide) harr hlen (fun j hj => va_eqt (hel j hj)) (fun _ _ h => h)
  obtain ⟨t2, cell2, g1, g2, -⟩ := Term.length_spec hlen
  have hsz : cell2.slots.size < 2 ^ 31 := by
    have hv := hlen
    simp only [Term.eval, g1, g2, Option.bind_eq_bind, Option.bind_some] at hv
    by_cases hlt : cell2.slots.size < 2147483648
    · exact hlt
    · simp [hlt] at hv
  cases ht.symm.trans g1
  cases h1.symm.trans (State.arrayAt?_spec g2).1
  have h5 : cell.slots.size = 6 := by
    have e := congrArg Int32.toInt h5
    have e1 : (cell.slots.size.toInt32).toInt = (cell.slots.size : Int) := nI_toInt hsz
    have e2 : (Int32.ofNat 6).toInt = 6 := rfl
    rw [e1, e2] at e
    omega
  exact ⟨t, ht, ⟨cell, h1, h2, h3, h5, h6⟩, (Array.getElem?_eq_some_iff.mp h1).1⟩
set_option maxHeartbeats 4000000 in
set_option maxRecDepth 100000 in
/-- THE LAW, from its entry, out of the pure steps -/
theorem whole_of {Inv : St → Prop} (hI0 : Inv S0) (hA : AllSteps Inv) {p : Program} {e : Env} {s : State} {m : MethodId} {below : List Frame} {meth : Method} {c : Code} (l : Launch) {b L : Nat} {xs : Nat → Int32} (hL : L ≤ 3072) (C0 : lw_At p s m meth c b L xs) : W p l e room_1 s m #[Value.ref b] below meth c s.heap [] 0 0 (lw_Z below #[Value.ref b] s) (entryFrame m ([Value.ref b] : List Value).toArray 4) := by
  obtain ⟨hx, hb, hr, hml, hown, hts, hX, hbl, hlocks, hgv⟩ := id C0
  have hk : ∀ (ci : Nat) (q : vw_C), cl[ci]? = some q → ∃ (cC : ClassId) (iS : Nat → Nat), u_Kn s q.1 q.2.1 q.2.2 cC iS := fun ci q hq => by
    have hin : Cond.instantiable q.1 q.2.2 ∈ lw_tbl := by
      have key : cl.all (fun q => decide (Cond.instantiable q.1 q.2.2 ∈ lw_tbl)) = true := by decide +kernel
      exact of_decide_eq_true (List.all_eq_true.mp key q (List.mem_of_getElem? hq))
    exact u_known (C := q.1) (T := q.2.1) (N := q.2.2) (n := q.2.2) hts (fun w h => UU_in w (clU ci q hq w h)) (hts _ hin)
  have hk2 : ∀ ci : Nat, ∃ x : ClassId × (Nat → Nat), ∀ q : vw_C, cl[ci]? = some q → u_Kn s q.1 q.2.1 q.2.2 x.1 x.2 := fun ci => by
    cases hq : cl[ci]? with
    | none => exact ⟨(0, fun _ => 0), fun q h => by cases h⟩
    | some q =>
      obtain ⟨cC, iS, h⟩ := hk ci q hq
      exact ⟨(cC, iS), fun q' h' => by cases h'; exact h⟩
  have harr : ∀ ty : FieldType, Cond.arrayClass ty ∈ lw_tbl → (∀ cA, s.vm.findClass ("[" ++ ty.toString) = some cA → va_RA s cA ty) → ∃ cA, ArrOfT s cA ty ∧ va_RA s cA ty := fun ty h hra => by
    obtain ⟨cA, kA, comp, h1, h2, h3⟩ := Cond.arrayClass_spec (hts _ h)
    exact ⟨cA, fun n z => ⟨fun k h => (by cases h), kA, h2, comp, h3⟩, hra cA h1⟩
  have hoar : ∀ C : String, va_AO C s → ∃ cA, ArrOfT s cA (.object C) ∧ va_RA s cA (.object C) := fun C h => by
    obtain ⟨comp, cA, kA, h1, h2, h3, h4, h5⟩ := Cond.arrayOver_spec h
    exact ⟨cA, fun n z => ⟨fun k h => (by cases h), kA, h3, comp, h4⟩, kA, comp, h3, h4, h1, h5⟩
  have ho1 : va_AO RX1 s := va_AO.of (hts (Cond.arrayOver (.object RX1)) (of_decide_eq_true (by decide +kernel)))
  have ho7 : va_AO RX7 s := va_AO.of (hts (Cond.arrayOver (.object RX7)) (of_decide_eq_true (by decide +kernel)))
  obtain ⟨a1, A1⟩ := harr .int (of_decide_eq_true (by decide +kernel)) (fun _ h => h)
  obtain ⟨a2, A2⟩ := harr .long (of_decide_eq_true (by decide +kernel)) (fun _ h => h)
  obtain ⟨a3, A3⟩ := harr .byte (of_decide_eq_true (by decide +kernel)) (fun _ h => h)
  obtain ⟨a4, A4⟩ := harr .boolean (of_decide_eq_true (by decide +kernel)) (fun _ h => h)
  obtain ⟨a5, A5⟩ := hoar RX1 ho1
  obtain ⟨a6, A6⟩ := hoar RX7 ho7
  have hnar : ∀ w ∈ flatC (Jvm.Cond.and given_1 narrow_1), w.before #[Value.ref b] s = true := flat_of_before _ hgv
  obtain ⟨t1, et1, X1, l1⟩ := tb_of (args := #[Value.ref b]) (s := s) (tm := .static "ChoirWires" "FIRST_VALUES" "[I") (f := FIRSTV) (hnar _ (of_decide_eq_true (by decide +kernel))) (hnar _ (of_decide_eq_true (by decide +kernel))) (fun j hj => by
    have hj : j = 0 ∨ j = 1 ∨ j = 2 ∨ j = 3 ∨ j = 4 ∨ j = 5 := by omega
    rcases hj with rfl | rfl | rfl | rfl | rfl | rfl <;> exact hnar _ (of_decide_eq_true (by decide +kernel)))
  obtain ⟨t2, et2, X2, l2⟩ := tb_of (args := #[Value.ref b]) (s := s) (tm := .static "ChoirWires" "MOST_VALUES" "[I") (f := MOSTV) (hnar _ (of_decide_eq_true (by decide +kernel))) (hnar _ (of_decide_eq_true (by decide +kernel))) (fun j hj => by
    have hj : j = 0 ∨ j = 1 ∨ j = 2 ∨ j = 3 ∨ j = 4 ∨ j = 5 := by omega
    rcases hj with rfl | rfl | rfl | rfl | rfl | rfl <;> exact hnar _ (of_decide_eq_true (by decide +kernel)))
  obtain ⟨E, hEb, hEK, hET⟩ : ∃ E : En, E.2.2.2.1 = s.heap.size ∧ va_K E.1 cl (tys E) s ∧ Tb E s s.heap := by
    refine ⟨((fun ci => (Classical.choose (hk2 ci)).1, fun ci => (Classical.choose (hk2 ci)).2), (fun k => ([a1, a1, a2, a3, a4, a5, a6] : List ClassId).getD k 0), (fun _ => 0), s.heap.size, t1, t2), rfl, ⟨fun ci q hq => Classical.choose_spec (hk2 ci) q hq, ?_⟩, ?_⟩
    · intro k q hq
      match k, hq with
      | 0, hq => cases hq; exact A1
      | 1, hq => cases hq; exact A1
      | 2, hq => cases hq; exact A2
      | 3, hq => cases hq; exact A3
      | 4, hq => cases hq; exact A4
      | 5, hq => cases hq; exact A5
      | 6, hq => cases hq; exact A6
      | k + 7, hq => simp [tys] at hq
    · have hA0 : ∀ a : Nat, a < s.heap.size → ¬ (s.heap.size ≤ a) := fun a h => Nat.not_le.mpr h
      exact ⟨⟨va_Zref (hts _ (of_decide_eq_true (by decide +kernel))) (hts _ (of_decide_eq_true (by decide +kernel))) et1 hA0, X1, l1⟩, va_Zref (hts _ (of_decide_eq_true (by decide +kernel))) (hts _ (of_decide_eq_true (by decide +kernel))) et2 hA0, X2, l2⟩
  have hN : Nn s := fun w hw => by
    have h := hts w (List.mem_filter.mp hw).1
    have h2 := (List.mem_filter.mp hw).2
    cases w with
    | fieldLinkNest a i b n d h => exact va_Nw.of rfl (by assumption)
    | methodLinkNest a i x h => exact va_Nw.of rfl (by assumption)
    | _ => cases h2
  have C : Cx E p s m #[Value.ref b] c code 4 RL lw_tbl := ⟨⟨hx, hb, hml, hown, hts⟩, hEK, hET, hN⟩
  have Cc1 : Cc E p s m #[Value.ref b] c code 4 RL lw_tbl := ⟨⟨hx, hb, hml, hown, hts⟩, hEK, hN⟩
  have hA0 : ∀ q, s.heap.size ≤ q → Ab E q := fun q h => by
    show E.2.2.2.1 ≤ q
    omega
  have hS : va_S (Ab E) s.heap s.heap [] := va_S.rf
  have hP : va_P E.1 cl [] s.heap := fun k q h => by simp at h
  have hD : va_D (Ab E) [] := ⟨fun i j p q h => by simp at h, fun k q h => by simp at h⟩
  have hl := lv_entry ([.ref b]) (n := 4) (Nat.le_of_ble_eq_true rfl)
  rw [lg_entry_eq]
  generalize (lg_sl ([.ref b]) ++ List.replicate (4 - (lg_sl ([.ref b])).length) Slot.unset).toArray = ls at hl ⊢
  have hl : lv_has ls 4 [(0, .ref b)] := hl
  refine n_new (ci := 10) (fs := [.null, .null, .null, .null, .null, .null, .null, .null]) Cc1 UU_in rfl w_RL_7 hP hD hS hA0 (by decide) (Nat.le_of_ble_eq_true rfl) (Nat.le_of_ble_eq_true rfl) dL_law_0 (fun q H hP hD hS => ?_)
  refine lv_dup hx hb dL_law_3 rfl ?_
  refine n_ctorL (ws := []) (rest := [.ref q]) Cc1 UU_in hl.1 (fun sz => c_X10_init l E q sz) k_RL_9 (fun U hw => ⟨va_AO.moved hw.alike ho1, va_AO.moved hw.alike ho7⟩) (fun U V hv h => ⟨va_AO.moved (by rw [hv]; exact Vm.Alike.refl _) h.1, va_AO.moved (by rw [hv]; exact Vm.Alike.refl _) h.2⟩) hP hD hS hA0 ⟨rfl, rfl⟩ ⟨Nat.le_of_ble_eq_true rfl, Nat.le_of_ble_eq_true rfl⟩ ⟨Nat.le_of_ble_eq_true rfl, Nat.le_of_ble_eq_true rfl⟩ (Nat.le_of_ble_eq_true rfl) dL_law_4 (fun u H locs hu hP1 hD1 hS => ?_)
  subst hu
  refine lv_astore_n (lv' := [(1, .ref (u 0)), (0, .ref b)]) hx hb dL_law_7 rfl hl (by decide) rfl (fun ls hl => ?_)
  refine n_new (ci := 11) (fs := [.null, .null, .null, .null, .null, .int 0, .int 0, .null, .null, .null, .null, .null, .null, .null, .null, .null, .null, .null, .null, .null, .null, .null]) Cc1 UU_in rfl w_RL_10 hP1 hD1 hS hA0 (by decide) (Nat.le_of_ble_eq_true rfl) (Nat.le_of_ble_eq_true rfl) dL_law_8 (fun q H hP hD hS => ?_)
  refine lv_dup hx hb dL_law_11 rfl ?_
  refine n_ctorL (rest := [.ref q]) Cc1 UU_in hl.1 (fun sz => c_X11_init l E q sz) k_RL_12 (fun U hw => trivial) (fun U V hv h => trivial) hP hD hS hA0 ⟨rfl, rfl⟩ ⟨Nat.le_of_ble_eq_true rfl, Nat.le_of_ble_eq_true rfl⟩ ⟨Nat.le_of_ble_eq_true rfl, Nat.le_of_ble_eq_true rfl⟩ (Nat.le_of_ble_eq_true rfl) dL_law_12 (fun w H locs hu hP1 hD1 hS => ?_)
  subst hu
  have hW : Ww (Ea E (ad0 u w)) S0 s H locs := st_world hP1 hD1 hS
  refine lv_astore_n (lv' := [(2, .ref (w 0)), (1, .ref (u 0)), (0, .ref b)]) hx hb dL_law_15 rfl hl (by decide) rfl (fun ls hl => ?_)
  refine lv_iconst (v := 0) hx hb dL_law_16 (by decide) ?_
  refine lv_istore_n (lv' := [(3, .int 0), (2, .ref (w 0)), (1, .ref (u 0)), (0, .ref b)]) hx hb dL_law_17 rfl hl (by decide) rfl (fun ls hl => ?_)
  refine W.widen (k := 63 + 9 * 0) (n := 3633 + 254 * 0) (Nat.le_of_ble_eq_true rfl) (Nat.le_of_ble_eq_true rfl) ?_
  exact law_loop hA hL hr hlocks hX hbl hEb C 513 0 (ad0 u w) S0 H locs ls (by omega) (by omega) hI0 hW (lv_sub hl [3, 2, 1, 0] rfl)
