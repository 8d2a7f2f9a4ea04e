/-! the law's start: the two objects are made, and the world stands -/
def S0 : St := (fun x j => if x = 61 then upd (upd (upd (fun _ => 0) ((128 : Int32).toNatClampNeg) 500) ((129 : Int32).toNatClampNeg) 21) ((131 : Int32).toNatClampNeg) 7 j else if x = 77 then upd (upd (upd (upd (fun _ => 0) ((0 : Int32).toNatClampNeg) (-1)) ((1 : Int32).toNatClampNeg) (-1)) ((2 : Int32).toNatClampNeg) (-1)) ((3 : Int32).toNatClampNeg) (-1) j else if x = 1 ∧ j = 3 then 21 else if x = 2 ∧ j = 1 then 500 else if x = 2 ∧ j = 2 then 7 else if x = 16 ∧ j = 0 then -1 else if x = 18 ∧ j = 0 then -1 else if x = 20 ∧ j = 0 then -1 else if x = 22 ∧ j = 0 then -1 else 0,
  fun _ _ => 0,
  fun x j => if x = 24 ∧ j = 0 then 25 else if x = 24 ∧ j = 1 then 26 else if x = 32 ∧ j = 0 then 33 else if x = 32 ∧ j = 1 then 34 else 0)
abbrev ad0 (u w : Nat → Nat) : Nat → Nat := fun id => if id < 42 then u id else w (id - 60)
theorem st_m (E : En) (u w : Nat → Nat) : (List.range' 60 21).map (fun id => ((Ea E (ad0 u w)).ad id, cellOf (Ea E (ad0 u w)) S0 id)) = cs_X11 E w := rfl
theorem st_x (E : En) (u w : Nat → Nat) : (List.range' 0 42).map (fun id => ((Ea E (ad0 u w)).ad id, cellOf (Ea E (ad0 u w)) S0 id)) = (cs_X10 E u).set 15 (u 15, .inl (E.ar 6, 4, .inr (.inr (.inr (.inr (fun k => some (ad0 u w (16 + 2 * k)))))))) := rfl
theorem k_RL_9 : lkL RL 9 yX10_init cX10_init 1 := ⟨⟨inUU (by decide +kernel), inUU (by decide +kernel), inUU (by decide +kernel), inUU (by decide +kernel)⟩, rfl, by decide +kernel⟩
theorem k_RL_12 : lkL RL 12 yX11_init cX11_init 2 := ⟨⟨inUU (by decide +kernel), inUU (by decide +kernel), inUU (by decide +kernel), inUU (by decide +kernel)⟩, rfl, by decide +kernel⟩
theorem w_RL_7 : Cond.classLink RL 7 RX10 ∈ UU ∧ Cond.instantiable RX10 8 ∈ UU ∧ Cond.initialized RX10 ∈ UU := ⟨inUU (by decide +kernel), inUU (by decide +kernel), inUU (by decide +kernel)⟩
theorem w_RL_10 : Cond.classLink RL 10 RX11 ∈ UU ∧ Cond.instantiable RX11 22 ∈ UU ∧ Cond.initialized RX11 ∈ UU := ⟨inUU (by decide +kernel), inUU (by decide +kernel), inUU (by decide +kernel)⟩
theorem st_world {E : En} {s : State} {H : Heap} {locs : List Loc} {u w : Nat → Nat} (hP : va_P E.1 cl (cs_X10 E u ++ cs_X11 E w) H) (hD : va_D (Ab E) (cs_X10 E u ++ cs_X11 E w)) (hS : va_S (Ab E) s.heap H locs) : Ww (Ea E (ad0 u w)) S0 s H locs := by
  have hl : (15 : Nat) < (cs_X10 E u).length := Nat.le_of_ble_eq_true rfl
  have h15 : (cs_X10 E u ++ cs_X11 E w)[15]? = some (u 15, .inl (E.ar 6, 4, .inr (.inr (.inr (.inr (va_up (va_up (va_up (va_up (fun _ => none) ((0 : Int32).toNatClampNeg) (some (u 16))) ((1 : Int32).toNatClampNeg) (some (u 18))) ((2 : Int32).toNatClampNeg) (some (u 20))) ((3 : Int32).toNatClampNeg) (some (u 22)))))))) := rfl
  have hw : wsOf (Ea E (ad0 u w)) S0 = (cs_X10 E u ++ cs_X11 E w).set 15 (u 15, .inl (E.ar 6, 4, .inr (.inr (.inr (.inr (fun k => some (ad0 u w (16 + 2 * k)))))))) := by
    rw [List.set_append_left _ _ hl, ← st_x E u w, ← st_m E u w]
    unfold wsOf
    rw [show ids S0 = List.range' 0 42 ++ List.range' 60 21 from rfl, List.map_append]
  refine ⟨?_, ?_, hS⟩
  · rw [hw]
    refine P_of fun q hq => ?_
    obtain ⟨k, hk⟩ := List.getElem?_of_mem hq
    by_cases h : 15 = k
    · subst h
      rw [List.getElem?_set_self (by rw [List.length_append]; omega)] at hk
      obtain rfl := Option.some.inj hk
      refine arr_q (hP 15 _ h15) (fun k hk => ?_)
      have hk : k = 0 ∨ k = 1 ∨ k = 2 ∨ k = 3 := by omega
      rcases hk with rfl | rfl | rfl | rfl <;> rfl
    · rw [List.getElem?_set_ne h] at hk
      exact hP k q hk
  · rw [hw]
    exact hD.set h15
theorem tb_of {args : Array Value} {s : State} {tm : Term} {f : Nat → Int32} (harr : (Cond.arrayOf tm .int).before args s = true) (hlen : (Cond.eq (.length tm) (.int 6)).before args s = true) (hel : ∀ j : Nat, j < 6 → (Cond.eq (.elem tm (.int (Int32.ofNat j))) (.int (f j))).before args s = true) : ∃ t : Nat, tm.eval args s none [] s = some (.ref t) ∧ va_X t 6 f s s.heap ∧ t < s.heap.size := by
  have hlen := va_eqt hlen
  obtain ⟨t, ht, cell, h1, h2, h3, h4, h5, h6, -⟩ := va_Tof (A := fun _ => False) (N := 6) (f := fun j => .int (f j)) (by decide) harr hlen (fun j hj => va_eqt (hel j hj)) (fun _ _ h => h)
  obtain ⟨t2, cell2, g1, g2, -⟩ := Term.length_spec hlen
  have hsz : cell2.slots.size < 2 ^ 31 := by
    have hv := hlen
    simp only [Term.eval, g1, g2, Option.bind_eq_bind, Option.bind_some] at hv
    by_cases hlt : cell2.slots.size < 2147483648
    · exact hlt
    · simp [hlt] at hv
  cases ht.symm.trans g1
  cases h1.symm.trans (State.arrayAt?_spec g2).1
  have h5 : cell.slots.size = 6 := by
    have e := congrArg Int32.toInt h5
    have e1 : (cell.slots.size.toInt32).toInt = (cell.slots.size : Int) := nI_toInt hsz
    have e2 : (Int32.ofNat 6).toInt = 6 := rfl
    rw [e1, e2] at e
    omega
  exact ⟨t, ht, ⟨cell, h1, h2, h3, h5, h6⟩, (Array.getElem?_eq_some_iff.mp h1).1⟩
theorem nar_in {c : Cond} (h : decide (c ∈ flat narrow_1) = true) : c ∈ flat narrow_1 := of_decide_eq_true h
