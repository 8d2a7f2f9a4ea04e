/-! what the world's memories answer, and the rows of the instructions that touch it -/
def inB (i : Int32) (n : Nat) : Bool := !decide (i < 0) && decide (i.toNatClampNeg < n)
theorem inB_in {i : Int32} {n : Nat} (h : inB i n = true) : vp_in i n := by
  simp only [inB, Bool.and_eq_true, Bool.not_eq_true', decide_eq_false_iff_not, decide_eq_true_eq] at h
  exact fun q => q.elim h.1 (fun z => absurd h.2 (Nat.not_lt.mpr z))
def okA (S : St) (kn id : Nat) (i : Int32) : Prop := kk_ id = kn ∧ id ∈ ids S ∧ inB i (kl id) = true
def ldA (S : St) (id : Nat) (i : Int32) : Option Int32 := if kk_ id = 1 ∧ id ∈ ids S ∧ inB i (kl id) = true then some (rI S id i.toNatClampNeg) else none
def stA (S : St) (id : Nat) (i v : Int32) : Option St := if kk_ id = 1 ∧ id ∈ ids S ∧ inB i (kl id) = true then some (wI S id i.toNatClampNeg v) else none
def ldB (S : St) (id : Nat) (i : Int32) : Option Int32 := if kk_ id = 3 ∧ id ∈ ids S ∧ inB i (kl id) = true then some (rI S id i.toNatClampNeg) else none
def stB (S : St) (id : Nat) (i v : Int32) : Option St := if kk_ id = 3 ∧ id ∈ ids S ∧ inB i (kl id) = true then some (wI S id i.toNatClampNeg (vp_nar .byte v)) else none
def ldZ (S : St) (id : Nat) (i : Int32) : Option Int32 := if kk_ id = 4 ∧ id ∈ ids S ∧ inB i (kl id) = true then some (rI S id i.toNatClampNeg) else none
def stZ (S : St) (id : Nat) (i v : Int32) : Option St := if kk_ id = 4 ∧ id ∈ ids S ∧ inB i (kl id) = true then some (wI S id i.toNatClampNeg (vp_nar .boolean v)) else none
def ldL (S : St) (id : Nat) (i : Int32) : Option Int64 := if kk_ id = 2 ∧ id ∈ ids S ∧ inB i (kl id) = true then some (rJ S id i.toNatClampNeg) else none
def stL (S : St) (id : Nat) (i : Int32) (v : Int64) : Option St := if kk_ id = 2 ∧ id ∈ ids S ∧ inB i (kl id) = true then some (wJ S id i.toNatClampNeg v) else none
def ldS (i : Int32) : Option Nat := if inB i 4 = true then some (16 + 2 * i.toNatClampNeg) else none
def ldT (f : Nat → Int32) (i : Int32) : Option Int32 := if inB i 6 = true then some (f i.toNatClampNeg) else none
def stF (S : St) (id k : Nat) (v : Int32) : Option St := some (wI S id k v)
def stR (S : St) (id k v : Nat) : Option St := some (wR S id k v)
/-- is the cell an object of that class -/
def ckO (S : St) (id ci : Nat) : Option Unit := if kk_ id = 0 ∧ kl id = ci ∧ id ∈ ids S then some () else none
def dvO (x y : Int32) : Option Int32 := if y = 0 then none else some (x / y)
def rmO (x y : Int32) : Option Int32 := if y = 0 then none else some (x - x / y * y)
def alO (S : St) (id : Nat) : Option Int32 := if kk_ id = 1 ∧ id ∈ ids S then some (Int32.ofNat (kl id)) else none
def alL (S : St) (id : Nat) : Option Int32 := if kk_ id = 2 ∧ id ∈ ids S then some (Int32.ofNat (kl id)) else none
def cpI (S : St) (a0 : Nat) (sp : Int32) (a1 : Nat) (dp n : Int32) : Option St := if (kk_ a0 = 1 ∧ a0 ∈ ids S) ∧ (kk_ a1 = 1 ∧ a1 ∈ ids S) ∧ (¬ sp < 0 ∧ ¬ dp < 0 ∧ ¬ n < 0) ∧ sp.toNatClampNeg + n.toNatClampNeg ≤ kl a0 ∧ dp.toNatClampNeg + n.toNatClampNeg ≤ kl a1 then some (cI S a0 sp.toNatClampNeg a1 dp.toNatClampNeg n.toNatClampNeg) else none
def cpJ (S : St) (a0 : Nat) (sp : Int32) (a1 : Nat) (dp n : Int32) : Option St := if (kk_ a0 = 2 ∧ a0 ∈ ids S) ∧ (kk_ a1 = 2 ∧ a1 ∈ ids S) ∧ (¬ sp < 0 ∧ ¬ dp < 0 ∧ ¬ n < 0) ∧ sp.toNatClampNeg + n.toNatClampNeg ≤ kl a0 ∧ dp.toNatClampNeg + n.toNatClampNeg ≤ kl a1 then some (cJ S a0 sp.toNatClampNeg a1 dp.toNatClampNeg n.toNatClampNeg) else none
def cpF (S : St) (f : Nat → Int32) (sp : Int32) (a1 : Nat) (dp n : Int32) : Option St := if (kk_ a1 = 1 ∧ a1 ∈ ids S) ∧ (¬ sp < 0 ∧ ¬ dp < 0 ∧ ¬ n < 0) ∧ sp.toNatClampNeg + n.toNatClampNeg ≤ 6 ∧ dp.toNatClampNeg + n.toNatClampNeg ≤ kl a1 then some (cF S f sp.toNatClampNeg a1 dp.toNatClampNeg n.toNatClampNeg) else none
theorem if_so {α : Type} {c : Prop} [Decidable c] {x y : α} (h : (if c then some x else none) = some y) : c ∧ x = y := by
  by_cases hc : c
  · rw [if_pos hc] at h
    exact ⟨hc, Option.some.inj h⟩
  · rw [if_neg hc] at h
    cases h
theorem bd_so {α β : Type} {x : Option α} {f : α → Option β} {y : β} (h : x.bind f = some y) : ∃ a, x = some a ∧ f a = some y := by
  cases x with
  | none => cases h
  | some a => exact ⟨a, rfl, h⟩
theorem so1 {α : Type} {a c : α} (h : some a = some c) : c = a := (Option.some.inj h).symm
theorem so2 {α β : Type} {a c : α} {b d : β} (h : some (a, b) = some (c, d)) : c = a ∧ d = b := by
  have h := Option.some.inj h
  exact ⟨(Prod.mk.inj h).1.symm, (Prod.mk.inj h).2.symm⟩
theorem so3 {α β γ : Type} {a c : α} {b d : β} {e f : γ} (h : some (a, b, e) = some (c, d, f)) : c = a ∧ d = b ∧ f = e := by
  have h := Option.some.inj h
  exact ⟨(Prod.mk.inj h).1.symm, (Prod.mk.inj (Prod.mk.inj h).2).1.symm, (Prod.mk.inj (Prod.mk.inj h).2).2.symm⟩
theorem so4 {α β γ δ : Type} {a a2 : α} {b b2 : β} {c c2 : γ} {d d2 : δ} (h : some (a, b, c, d) = some (a2, b2, c2, d2)) : a2 = a ∧ b2 = b ∧ c2 = c ∧ d2 = d := by
  have h := Option.some.inj h
  exact ⟨(Prod.mk.inj h).1.symm, (Prod.mk.inj (Prod.mk.inj h).2).1.symm, (Prod.mk.inj (Prod.mk.inj (Prod.mk.inj h).2).2).1.symm, (Prod.mk.inj (Prod.mk.inj (Prod.mk.inj h).2).2).2.symm⟩
/-! places in the world -/
theorem ids_nodup (S : St) : (ids S).Nodup := by
  unfold ids
  split <;> split <;> decide
theorem ws_at (E : En) {S : St} {id : Nat} (h : id ∈ ids S) : ∃ j : Nat, (wsOf E S)[j]? = some (E.ad id, cellOf E S id) ∧ (ids S)[j]? = some id := by
  obtain ⟨j, hj⟩ := List.getElem?_of_mem h
  exact ⟨j, by rw [wsOf, List.getElem?_map, hj]; rfl, hj⟩
theorem ws_set (E : En) {S S' : St} {id j : Nat} (hj : (ids S)[j]? = some id) (hi : ids S' = ids S) (ho : ∀ x, x ≠ id → cellOf E S' x = cellOf E S x) : (wsOf E S).set j (E.ad id, cellOf E S' id) = wsOf E S' := by
  apply List.ext_getElem?
  intro k
  unfold wsOf
  rw [hi, List.getElem?_set, List.getElem?_map, List.getElem?_map, List.length_map]
  have hl : j < (ids S).length := (List.getElem?_eq_some_iff.mp hj).1
  by_cases hk : j = k
  · subst hk
    rw [if_pos rfl, if_pos hl, hj]
    rfl
  · rw [if_neg hk]
    cases h : (ids S)[k]? with
    | none => rfl
    | some x =>
      have hx : x ≠ id := by
        intro e
        subst e
        exact hk ((List.getElem?_inj hl (ids_nodup S)).mp (hj.trans h.symm))
      simp only [Option.map_some]
      rw [ho x hx]
theorem cell_congr (E : En) {S S' : St} {x : Nat} (h1 : ∀ j, rI S' x j = rI S x j) (h2 : ∀ j, rJ S' x j = rJ S x j) (h3 : ∀ j, rR S' x j = rR S x j) : cellOf E S' x = cellOf E S x := by
  have e1 : rI S' x = rI S x := funext h1
  have e2 : rJ S' x = rJ S x := funext h2
  have e3 : rR S' x = rR S x := funext h3
  have e4 : ∀ ci k, fv E S' x ci k = fv E S x ci k := fun ci k => by unfold fv; rw [h1, h3]
  have e5 : fv E S' x (kl x) = fv E S x (kl x) := funext (e4 (kl x))
  unfold cellOf
  rw [e1, e2, e3, e5]
theorem ids_wI (S : St) (a k : Nat) (v : Int32) : ids (wI S a k v) = ids S := rfl
theorem ids_wJ (S : St) (a k : Nat) (v : Int64) : ids (wJ S a k v) = ids S := rfl
theorem ids_cI (S : St) (a0 sp a1 dp n : Nat) : ids (cI S a0 sp a1 dp n) = ids S := rfl
theorem ids_cJ (S : St) (a0 sp a1 dp n : Nat) : ids (cJ S a0 sp a1 dp n) = ids S := rfl
theorem ids_cF (S : St) (f : Nat → Int32) (sp a1 dp n : Nat) : ids (cF S f sp a1 dp n) = ids S := rfl
theorem ids_wR (S : St) (a k v : Nat) (h : a ≠ 10) : ids (wR S a k v) = ids S := by
  have e : ∀ j, rR (wR S a k v) 10 j = rR S 10 j := fun j => by simp [rR, wR, Ne.symm h]
  unfold ids
  rw [e, e]
theorem cell_arr (E : En) (S : St) {id kn : Nat} (h : kk_ id = kn) (h0 : kn ≠ 0) (h2 : kn ≠ 2) (h5 : kn ≠ 5) (h6 : kn ≠ 6) : cellOf E S id = .inl (E.ar kn, kl id, .inl (rI S id)) := by
  unfold cellOf
  rw [h, if_neg h0, if_neg h2, if_neg h5, if_neg h6]
theorem cell_lon (E : En) (S : St) {id : Nat} (h : kk_ id = 2) : cellOf E S id = .inl (E.ar 2, kl id, .inr (.inl (rJ S id))) := by
  unfold cellOf
  rw [h]
  rfl
theorem cell_obj (E : En) (S : St) {id ci : Nat} (h : kk_ id = 0) (h2 : kl id = ci) : cellOf E S id = .inr (ci, (List.range (nfl ci)).map (fv E S id ci)) := by
  unfold cellOf
  rw [h, h2]
  rfl
theorem upd_wI (S : St) (id k : Nat) (v : Int32) : upd (rI S id) k v = rI (wI S id k v) id := by
  funext j
  simp [upd, rI, wI]
theorem upd_wJ (S : St) (id k : Nat) (v : Int64) : vp_updL (rJ S id) k v = rJ (wJ S id k v) id := by
  funext j
  simp [vp_updL, rJ, wJ]
section ROWS
variable {p : Program} {l : Launch} {e : Env} {R : Room} {s : State} {m : MethodId} {args : Array Value} {below : List Frame} {meth : Method} {c : Code} {H : Heap} {locs : List Loc} {cells slots : Nat} {Q : State → Prop}
variable {cc : ByteArray} {nL pc : Nat} {ls : Array Slot} {rest : List Value} {E : En} {S S1 : St} {own : String} {Us : List Cond} {id : Nat} {i x v : Int32}
theorem g_get {ci k index : Nat} {q : vw_C} {val : Value} (C : Cx E p s m args c cc nL own Us) (hUs : ∀ w ∈ UU, w ∈ Us) (hW : Ww E S s H locs) (hc : cl[ci]? = some q) (hk0 : kk_ id = 0) (hk1 : kl id = ci) (hid : id ∈ ids S) (hk : k < nfl ci) (hlink : Cond.fieldLink own index (q.2.1 k).1 (q.2.1 k).2.1 (q.2.1 k).2.2.1 ∈ UU) (hv : fv E S id ci k = val) (hdg : decode cc pc = .ok (.getfield index, 3))
    (kk : W p l e R s m args below meth c H locs cells slots Q (F0 m (pc + 3) ls (val :: rest))) : W p l e R s m args below meth c H locs cells slots Q (F0 m pc ls (.ref (E.ad id) :: rest)) := by
  obtain ⟨⟨hx, hb, hml, hown, hts⟩, hK, -⟩ := C
  obtain ⟨j, hj, -⟩ := ws_at E hid
  rw [cell_obj E S hk0 hk1] at hj
  have hN := cl_nfl hc
  obtain ⟨C0, T0, N0⟩ := q
  have hN : N0 = nfl ci := hN
  subst hN
  refine va_get hx hb (fun w h => hts w (hUs w h)) (clU ci _ hc) hown hK hW.1 j hj hc k hk (hts _ (hUs _ hlink)) (fun _ h => h) ?_ hdg kk
  rw [List.getElem?_map, List.getElem?_range hk]
  exact congrArg some hv
theorem g_putW {ci k index : Nat} {q : vw_C} {val : Value} (C : Cx E p s m args c cc nL own Us) (hUs : ∀ w ∈ UU, w ∈ Us) (hW : Ww E S s H locs) (hc : cl[ci]? = some q) (hk0 : kk_ id = 0) (hk1 : kl id = ci) (hid : id ∈ ids S) (hk : k < nfl ci) (hlink : Cond.fieldLink own index (q.2.1 k).1 (q.2.1 k).2.1 (q.2.1 k).2.2.1 ∈ UU) (hfin : (q.2.1 k).2.2.2 = false)
    (hn : narrow (tyOf (q.2.1 k).2.2.1) val = val) (hfit : fits (tyOf (q.2.1 k).2.2.1) val = true) (hi : ids S1 = ids S) (ho : ∀ y, y ≠ id → cellOf E S1 y = cellOf E S y) (hs : ∀ j, fv E S1 id ci j = if j = k then val else fv E S id ci j) (hdg : decode cc pc = .ok (.putfield index, 3))
    (kk : ∀ (H1 : Heap) (locs1 : List Loc), Ww E S1 s H1 locs1 → W p l e R s m args below meth c H1 locs1 cells slots Q (F0 m (pc + 3) ls rest)) : W p l e R s m args below meth c H locs cells slots Q (F0 m pc ls (val :: .ref (E.ad id) :: rest)) := by
  obtain ⟨⟨hx, hb, hml, hown, hts⟩, hK, -⟩ := C
  obtain ⟨j, hj, hj2⟩ := ws_at E hid
  rw [cell_obj E S hk0 hk1] at hj
  have hN := cl_nfl hc
  have hty := cl_ty ci q hc
  have hnm := cl_nm ci q hc
  obtain ⟨C0, T0, N0⟩ := q
  have hN : N0 = nfl ci := hN
  subst hN
  have e0 : ((List.range (nfl ci)).map (fv E S id ci)).set k val = (List.range (nfl ci)).map (fv E S1 id ci) := by
    apply List.ext_getElem?
    intro y
    rw [List.getElem?_set, List.getElem?_map, List.getElem?_map, List.length_map, List.length_range]
    by_cases hy : k = y
    · subst hy
      rw [if_pos rfl, if_pos hk, List.getElem?_range hk]
      show some val = some _
      rw [hs, if_pos rfl]
    · rw [if_neg hy]
      by_cases hy2 : y < nfl ci
      · rw [List.getElem?_range hy2]
        show some _ = some _
        rw [hs, if_neg (Ne.symm hy)]
      · rw [List.getElem?_eq_none (by rw [List.length_range]; omega)]
        rfl
  refine va_put hx hb (fun w h => hts w (hUs w h)) (clU ci _ hc) (fun k => tyOf (T0 k).2.2.1) hty hnm hown hK hW.1 hW.2.1 hW.2.2 j hj hc k hk (hts _ (hUs _ hlink)) (fun _ h => h) hfin (hty k hk) hn hfit (by rw [List.length_map, List.length_range]; exact hk) hdg (fun H1 locs1 p1 d1 s1 => kk H1 locs1 ?_)
  rw [e0, ← cell_obj E S1 hk0 hk1, ws_set E hj2 hi ho] at p1 d1
  exact ⟨p1, d1, s1⟩
theorem wI_cell (E : En) (S : St) (id k : Nat) (v : Int32) : ∀ y, y ≠ id → cellOf E (wI S id k v) y = cellOf E S y := fun y hy => cell_congr E (fun j => by simp [rI, wI, hy]) (fun _ => rfl) (fun _ => rfl)
theorem wJ_cell (E : En) (S : St) (id k : Nat) (v : Int64) : ∀ y, y ≠ id → cellOf E (wJ S id k v) y = cellOf E S y := fun y hy => cell_congr E (fun _ => rfl) (fun j => by simp [rJ, wJ, hy]) (fun _ => rfl)
theorem wR_cell (E : En) (S : St) (id k v : Nat) : ∀ y, y ≠ id → cellOf E (wR S id k v) y = cellOf E S y := fun y hy => cell_congr E (fun _ => rfl) (fun _ => rfl) (fun j => by simp [rR, wR, hy])
theorem g_putI {ci k index : Nat} {q : vw_C} (C : Cx E p s m args c cc nL own Us) (hUs : ∀ w ∈ UU, w ∈ Us) (hW : Ww E S s H locs) (hc : cl[ci]? = some q) (hk0 : kk_ id = 0) (hk1 : kl id = ci) (hid : id ∈ ids S) (hk : k < nfl ci) (hlink : Cond.fieldLink own index (q.2.1 k).1 (q.2.1 k).2.1 (q.2.1 k).2.2.1 ∈ UU) (hfin : (q.2.1 k).2.2.2 = false) (hty : tyOf (q.2.1 k).2.2.1 = .int) (hfk : fk ci k = 0) (h : stF S id k v = some S1) (hdg : decode cc pc = .ok (.putfield index, 3))
    (kk : ∀ (H1 : Heap) (locs1 : List Loc), Ww E S1 s H1 locs1 → W p l e R s m args below meth c H1 locs1 cells slots Q (F0 m (pc + 3) ls rest)) : W p l e R s m args below meth c H locs cells slots Q (F0 m pc ls (.int v :: .ref (E.ad id) :: rest)) := by
  cases h
  refine g_putW (S1 := wI S id k v) C hUs hW hc hk0 hk1 hid hk hlink hfin (by rw [hty]; rfl) (by rw [hty]; rfl) rfl (wI_cell E S id k v) (fun j => ?_) hdg kk
  by_cases hj : j = k
  · subst hj
    simp [fv, hfk, rI, wI]
  · simp [fv, rI, wI, hj, rR]
theorem g_putR {ci k index v : Nat} {q : vw_C} (C : Cx E p s m args c cc nL own Us) (hUs : ∀ w ∈ UU, w ∈ Us) (hW : Ww E S s H locs) (hc : cl[ci]? = some q) (hk0 : kk_ id = 0) (hk1 : kl id = ci) (hid : id ∈ ids S) (hk : k < nfl ci) (hlink : Cond.fieldLink own index (q.2.1 k).1 (q.2.1 k).2.1 (q.2.1 k).2.2.1 ∈ UU) (hfin : (q.2.1 k).2.2.2 = false) (hty : tyOf (q.2.1 k).2.2.1 = .array .int) (hfk : fk ci k = 2) (hne : id ≠ 10) (h : stR S id k v = some S1) (hdg : decode cc pc = .ok (.putfield index, 3))
    (kk : ∀ (H1 : Heap) (locs1 : List Loc), Ww E S1 s H1 locs1 → W p l e R s m args below meth c H1 locs1 cells slots Q (F0 m (pc + 3) ls rest)) : W p l e R s m args below meth c H locs cells slots Q (F0 m pc ls (.ref (E.ad v) :: .ref (E.ad id) :: rest)) := by
  cases h
  refine g_putW (S1 := wR S id k v) C hUs hW hc hk0 hk1 hid hk hlink hfin (by rw [hty]; rfl) (by rw [hty]; rfl) (ids_wR S id k v hne) (wR_cell E S id k v) (fun j => ?_) hdg kk
  by_cases hj : j = k
  · subst hj
    simp [fv, hfk, rR, wR]
  · simp [fv, rI, rR, wR, hj]
theorem g_iald (C : Cx E p s m args c cc nL own Us) (hW : Ww E S s H locs) (h : ldA S id i = some x) (hdg : decode cc pc = .ok (.iaload, 1))
    (kk : W p l e R s m args below meth c H locs cells slots Q (F0 m (pc + 1) ls (.int x :: rest))) : W p l e R s m args below meth c H locs cells slots Q (F0 m pc ls (.int i :: .ref (E.ad id) :: rest)) := by
  obtain ⟨⟨h1, h2, h3⟩, rfl⟩ := if_so h
  obtain ⟨j, hj, -⟩ := ws_at E h2
  rw [cell_arr E S h1 (by decide) (by decide) (by decide) (by decide)] at hj
  exact va_iald C.1.1 C.1.2.1 C.2.1 hW.1 j 1 hj rfl (inB_in h3) hdg kk
theorem g_bald (C : Cx E p s m args c cc nL own Us) (hW : Ww E S s H locs) (h : ldB S id i = some x) (hdg : decode cc pc = .ok (.baload, 1))
    (kk : W p l e R s m args below meth c H locs cells slots Q (F0 m (pc + 1) ls (.int x :: rest))) : W p l e R s m args below meth c H locs cells slots Q (F0 m pc ls (.int i :: .ref (E.ad id) :: rest)) := by
  obtain ⟨⟨h1, h2, h3⟩, rfl⟩ := if_so h
  obtain ⟨j, hj, -⟩ := ws_at E h2
  rw [cell_arr E S h1 (by decide) (by decide) (by decide) (by decide)] at hj
  exact va_bald C.1.1 C.1.2.1 C.2.1 hW.1 j 3 hj rfl (inB_in h3) hdg kk
theorem g_zald (C : Cx E p s m args c cc nL own Us) (hW : Ww E S s H locs) (h : ldZ S id i = some x) (hdg : decode cc pc = .ok (.baload, 1))
    (kk : W p l e R s m args below meth c H locs cells slots Q (F0 m (pc + 1) ls (.int x :: rest))) : W p l e R s m args below meth c H locs cells slots Q (F0 m pc ls (.int i :: .ref (E.ad id) :: rest)) := by
  obtain ⟨⟨h1, h2, h3⟩, rfl⟩ := if_so h
  obtain ⟨j, hj, -⟩ := ws_at E h2
  rw [cell_arr E S h1 (by decide) (by decide) (by decide) (by decide)] at hj
  exact va_zald C.1.1 C.1.2.1 C.2.1 hW.1 j 4 hj rfl (inB_in h3) hdg kk
theorem g_lald {x : Int64} (C : Cx E p s m args c cc nL own Us) (hW : Ww E S s H locs) (h : ldL S id i = some x) (hdg : decode cc pc = .ok (.laload, 1))
    (kk : W p l e R s m args below meth c H locs cells slots Q (F0 m (pc + 1) ls (.long x :: rest))) : W p l e R s m args below meth c H locs cells slots Q (F0 m pc ls (.int i :: .ref (E.ad id) :: rest)) := by
  obtain ⟨⟨h1, h2, h3⟩, rfl⟩ := if_so h
  obtain ⟨j, hj, -⟩ := ws_at E h2
  rw [cell_lon E S h1] at hj
  exact va_lald C.1.1 C.1.2.1 C.2.1 hW.1 j 2 hj rfl (inB_in h3) hdg kk
theorem g_iast (C : Cx E p s m args c cc nL own Us) (hW : Ww E S s H locs) (h : stA S id i x = some S1) (hdg : decode cc pc = .ok (.iastore, 1))
    (kk : ∀ (H1 : Heap) (locs1 : List Loc), Ww E S1 s H1 locs1 → W p l e R s m args below meth c H1 locs1 cells slots Q (F0 m (pc + 1) ls rest)) : W p l e R s m args below meth c H locs cells slots Q (F0 m pc ls (.int x :: .int i :: .ref (E.ad id) :: rest)) := by
  obtain ⟨⟨h1, h2, h3⟩, rfl⟩ := if_so h
  obtain ⟨j, hj, hj2⟩ := ws_at E h2
  rw [cell_arr E S h1 (by decide) (by decide) (by decide) (by decide)] at hj
  refine va_iast C.1.1 C.1.2.1 C.2.1 hW.1 hW.2.1 hW.2.2 j 1 hj rfl (inB_in h3) hdg (fun H1 locs1 p1 d1 s1 => kk H1 locs1 ?_)
  rw [upd_wI, ← cell_arr E (wI S id i.toNatClampNeg x) h1 (by decide) (by decide) (by decide) (by decide), ws_set E (S' := wI S id i.toNatClampNeg x) hj2 rfl (wI_cell E S id _ x)] at p1 d1
  exact ⟨p1, d1, s1⟩
theorem g_bast (C : Cx E p s m args c cc nL own Us) (hW : Ww E S s H locs) (h : stB S id i x = some S1) (hdg : decode cc pc = .ok (.bastore, 1))
    (kk : ∀ (H1 : Heap) (locs1 : List Loc), Ww E S1 s H1 locs1 → W p l e R s m args below meth c H1 locs1 cells slots Q (F0 m (pc + 1) ls rest)) : W p l e R s m args below meth c H locs cells slots Q (F0 m pc ls (.int x :: .int i :: .ref (E.ad id) :: rest)) := by
  obtain ⟨⟨h1, h2, h3⟩, rfl⟩ := if_so h
  obtain ⟨j, hj, hj2⟩ := ws_at E h2
  rw [cell_arr E S h1 (by decide) (by decide) (by decide) (by decide)] at hj
  refine va_bast C.1.1 C.1.2.1 C.2.1 hW.1 hW.2.1 hW.2.2 j 3 hj rfl (inB_in h3) hdg (fun H1 locs1 p1 d1 s1 => kk H1 locs1 ?_)
  rw [upd_wI, ← cell_arr E (wI S id i.toNatClampNeg (vp_nar .byte x)) h1 (by decide) (by decide) (by decide) (by decide), ws_set E (S' := wI S id i.toNatClampNeg (vp_nar .byte x)) hj2 rfl (wI_cell E S id _ _)] at p1 d1
  exact ⟨p1, d1, s1⟩
theorem g_zast (C : Cx E p s m args c cc nL own Us) (hW : Ww E S s H locs) (h : stZ S id i x = some S1) (hdg : decode cc pc = .ok (.bastore, 1))
    (kk : ∀ (H1 : Heap) (locs1 : List Loc), Ww E S1 s H1 locs1 → W p l e R s m args below meth c H1 locs1 cells slots Q (F0 m (pc + 1) ls rest)) : W p l e R s m args below meth c H locs cells slots Q (F0 m pc ls (.int x :: .int i :: .ref (E.ad id) :: rest)) := by
  obtain ⟨⟨h1, h2, h3⟩, rfl⟩ := if_so h
  obtain ⟨j, hj, hj2⟩ := ws_at E h2
  rw [cell_arr E S h1 (by decide) (by decide) (by decide) (by decide)] at hj
  refine va_zast C.1.1 C.1.2.1 C.2.1 hW.1 hW.2.1 hW.2.2 j 4 hj rfl (inB_in h3) hdg (fun H1 locs1 p1 d1 s1 => kk H1 locs1 ?_)
  rw [upd_wI, ← cell_arr E (wI S id i.toNatClampNeg (vp_nar .boolean x)) h1 (by decide) (by decide) (by decide) (by decide), ws_set E (S' := wI S id i.toNatClampNeg (vp_nar .boolean x)) hj2 rfl (wI_cell E S id _ _)] at p1 d1
  exact ⟨p1, d1, s1⟩
theorem g_last {x : Int64} (C : Cx E p s m args c cc nL own Us) (hW : Ww E S s H locs) (h : stL S id i x = some S1) (hdg : decode cc pc = .ok (.lastore, 1))
    (kk : ∀ (H1 : Heap) (locs1 : List Loc), Ww E S1 s H1 locs1 → W p l e R s m args below meth c H1 locs1 cells slots Q (F0 m (pc + 1) ls rest)) : W p l e R s m args below meth c H locs cells slots Q (F0 m pc ls (.long x :: .int i :: .ref (E.ad id) :: rest)) := by
  obtain ⟨⟨h1, h2, h3⟩, rfl⟩ := if_so h
  obtain ⟨j, hj, hj2⟩ := ws_at E h2
  rw [cell_lon E S h1] at hj
  refine va_last C.1.1 C.1.2.1 C.2.1 hW.1 hW.2.1 hW.2.2 j 2 hj rfl (inB_in h3) hdg (fun H1 locs1 p1 d1 s1 => kk H1 locs1 ?_)
  rw [upd_wJ, ← cell_lon E (wJ S id i.toNatClampNeg x) h1, ws_set E (S' := wJ S id i.toNatClampNeg x) hj2 rfl (wJ_cell E S id _ x)] at p1 d1
  exact ⟨p1, d1, s1⟩
theorem g_alen (C : Cx E p s m args c cc nL own Us) (hW : Ww E S s H locs) (h : alO S id = some x) (hdg : decode cc pc = .ok (.arraylength, 1))
    (kk : W p l e R s m args below meth c H locs cells slots Q (F0 m (pc + 1) ls (.int x :: rest))) : W p l e R s m args below meth c H locs cells slots Q (F0 m pc ls (.ref (E.ad id) :: rest)) := by
  obtain ⟨⟨h1, h2⟩, rfl⟩ := if_so h
  obtain ⟨j, hj, -⟩ := ws_at E h2
  rw [cell_arr E S h1 (by decide) (by decide) (by decide) (by decide)] at hj
  exact va_alen C.1.1 C.1.2.1 C.2.1 hW.1 j 1 hj (ty := .int) rfl rfl hdg kk
theorem g_alenL (C : Cx E p s m args c cc nL own Us) (hW : Ww E S s H locs) (h : alL S id = some x) (hdg : decode cc pc = .ok (.arraylength, 1))
    (kk : W p l e R s m args below meth c H locs cells slots Q (F0 m (pc + 1) ls (.int x :: rest))) : W p l e R s m args below meth c H locs cells slots Q (F0 m pc ls (.ref (E.ad id) :: rest)) := by
  obtain ⟨⟨h1, h2⟩, rfl⟩ := if_so h
  obtain ⟨j, hj, -⟩ := ws_at E h2
  rw [cell_lon E S h1] at hj
  exact va_alen C.1.1 C.1.2.1 C.2.1 hW.1 j 2 hj (ty := .long) rfl rfl hdg kk
theorem in_sid {id : Nat} (S : St) (h : decide (id ∈ sid) = true) : id ∈ ids S := List.mem_append_left _ (of_decide_eq_true h)
theorem g_sht {y : Nat} (C : Cx E p s m args c cc nL own Us) (hW : Ww E S s H locs) (h : ldS i = some y) (hdg : decode cc pc = .ok (.aaload, 1))
    (kk : W p l e R s m args below meth c H locs cells slots Q (F0 m (pc + 1) ls (.ref (E.ad y) :: rest))) : W p l e R s m args below meth c H locs cells slots Q (F0 m pc ls (.int i :: .ref (E.ad 15) :: rest)) := by
  obtain ⟨h3, rfl⟩ := if_so h
  obtain ⟨j, hj, -⟩ := ws_at E (in_sid (id := 15) S rfl)
  exact va_aldq C.1.1 C.1.2.1 C.2.1 hW.1 j 6 (n := 4) (C := RX7) (f := fun k => some (E.ad (16 + 2 * k))) hj rfl (inB_in h3) hdg kk
theorem g_gets1 {index : Nat} (C : Cx E p s m args c cc nL own Us) (hUs : ∀ w ∈ UU, w ∈ Us) (hW : Ww E S s H locs) (hlink : Cond.fieldLink own index RX10 "FIRST_VALUES" "[I" ∈ UU) (hdg : decode cc pc = .ok (.getstatic index, 3))
    (kk : W p l e R s m args below meth c H locs cells slots Q (F0 m (pc + 3) ls (.ref E.2.2.2.2.1 :: rest))) : W p l e R s m args below meth c H locs cells slots Q (F0 m pc ls rest) :=
  va_gets C.1.1 C.1.2.1 C.2.2.1.1.1 hW.2.2 C.1.2.2.2.1 (C.1.2.2.2.2 _ (hUs _ hlink)) (fun _ h => h) hdg kk
theorem g_gets2 {index : Nat} (C : Cx E p s m args c cc nL own Us) (hUs : ∀ w ∈ UU, w ∈ Us) (hW : Ww E S s H locs) (hlink : Cond.fieldLink own index RX10 "MOST_VALUES" "[I" ∈ UU) (hdg : decode cc pc = .ok (.getstatic index, 3))
    (kk : W p l e R s m args below meth c H locs cells slots Q (F0 m (pc + 3) ls (.ref E.2.2.2.2.2 :: rest))) : W p l e R s m args below meth c H locs cells slots Q (F0 m pc ls rest) :=
  va_gets C.1.1 C.1.2.1 C.2.2.1.2.1 hW.2.2 C.1.2.2.2.1 (C.1.2.2.2.2 _ (hUs _ hlink)) (fun _ h => h) hdg kk
theorem g_getsN1 {index : Nat} (C : Cx E p s m args c cc nL own Us) (hW : Ww E S s H locs) (hlink : Cond.fieldLinkNest own index RX10 "FIRST_VALUES" "[I" RX10 ∈ nestW) (hdg : decode cc pc = .ok (.getstatic index, 3))
    (kk : W p l e R s m args below meth c H locs cells slots Q (F0 m (pc + 3) ls (.ref E.2.2.2.2.1 :: rest))) : W p l e R s m args below meth c H locs cells slots Q (F0 m pc ls rest) :=
  va_getsN C.1.1 C.1.2.1 C.2.2.1.1.1 hW.2.2 C.1.2.2.2.1 (va_Nw.use rfl (C.2.2.2 _ hlink)) (fun _ h => h) hdg kk
theorem g_getsN2 {index : Nat} (C : Cx E p s m args c cc nL own Us) (hW : Ww E S s H locs) (hlink : Cond.fieldLinkNest own index RX10 "MOST_VALUES" "[I" RX10 ∈ nestW) (hdg : decode cc pc = .ok (.getstatic index, 3))
    (kk : W p l e R s m args below meth c H locs cells slots Q (F0 m (pc + 3) ls (.ref E.2.2.2.2.2 :: rest))) : W p l e R s m args below meth c H locs cells slots Q (F0 m pc ls rest) :=
  va_getsN C.1.1 C.1.2.1 C.2.2.1.2.1 hW.2.2 C.1.2.2.2.1 (va_Nw.use rfl (C.2.2.2 _ hlink)) (fun _ h => h) hdg kk
theorem Tb_lt1 {U : State} (h : Tb E U H) : E.2.2.2.2.1 < H.size := by
  obtain ⟨⟨-, ⟨scr, h1, -⟩, -⟩, -⟩ := h
  exact (Array.getElem?_eq_some_iff.mp h1).1
theorem Tb_lt2 {U : State} (h : Tb E U H) : E.2.2.2.2.2 < H.size := by
  obtain ⟨-, -, ⟨scr, h1, -⟩, -⟩ := h
  exact (Array.getElem?_eq_some_iff.mp h1).1
theorem g_tld2 (C : Cx E p s m args c cc nL own Us) (hW : Ww E S s H locs) (h : ldT MOSTV i = some x) (hdg : decode cc pc = .ok (.iaload, 1))
    (kk : W p l e R s m args below meth c H locs cells slots Q (F0 m (pc + 1) ls (.int x :: rest))) : W p l e R s m args below meth c H locs cells slots Q (F0 m pc ls (.int i :: .ref E.2.2.2.2.2 :: rest)) := by
  obtain ⟨h3, rfl⟩ := if_so h
  exact va_sld C.1.1 C.1.2.1 C.2.2.1.2.2.1 (Tb_lt2 C.2.2.1) (Nat.not_le.mpr C.2.2.1.2.2.2) hW.2.2 (inB_in h3) hdg kk
theorem dv_so {x y q : Int32} (h : dvO x y = some q) : ¬ y = 0 ∧ x / y = q := by
  unfold dvO at h
  split at h
  · cases h
  · exact ⟨by assumption, Option.some.inj h⟩
theorem rm_so {x y q : Int32} (h : rmO x y = some q) : ¬ y = 0 ∧ x - x / y * y = q := by
  unfold rmO at h
  split at h
  · cases h
  · exact ⟨by assumption, Option.some.inj h⟩
theorem g_idiv {y q : Int32} (C : Cx E p s m args c cc nL own Us) (h : dvO x y = some q) (hdg : decode cc pc = .ok (.idiv, 1)) (kk : W p l e R s m args below meth c H locs cells slots Q (F0 m (pc + 1) ls (.int q :: rest))) : W p l e R s m args below meth c H locs cells slots Q (F0 m pc ls (.int y :: .int x :: rest)) := by
  obtain ⟨hn, rfl⟩ := dv_so h
  exact lv_idiv C.1.1 C.1.2.1 hdg hn kk
theorem g_irem {y q : Int32} (C : Cx E p s m args c cc nL own Us) (h : rmO x y = some q) (hdg : decode cc pc = .ok (.irem, 1)) (kk : W p l e R s m args below meth c H locs cells slots Q (F0 m (pc + 1) ls (.int q :: rest))) : W p l e R s m args below meth c H locs cells slots Q (F0 m pc ls (.int y :: .int x :: rest)) := by
  obtain ⟨hn, rfl⟩ := rm_so h
  exact lv_irem C.1.1 C.1.2.1 hdg hn kk
end ROWS
theorem ift_ {α : Type} {c : Prop} [Decidable c] {a b : Option α} {y : α} (h : (if c then a else b) = some y) (hc : c) : a = some y := by rwa [if_pos hc] at h
theorem iff_ {α : Type} {c : Prop} [Decidable c] {a b : Option α} {y : α} (h : (if c then a else b) = some y) (hc : ¬ c) : b = some y := by rwa [if_neg hc] at h
/-- how often a loop may turn -/
def FU : Nat := 2000
theorem sw_out5 {x : Int32} (h0 : ¬ x = 0) (h1 : ¬ x = 1) (h2 : ¬ x = 2) (h3 : ¬ x = 3) (h4 : ¬ x = 4) (h5 : ¬ x = 5) : x.toInt < 0 ∨ (5 : Int) < x.toInt := by
  have e : ∀ k : Int32, ¬ x = k → x.toInt ≠ k.toInt := fun k h z => h (Int32.toInt_inj.mp z)
  have e0 := e 0 h0
  have e1 := e 1 h1
  have e2 := e 2 h2
  have e3 := e 3 h3
  have e4 := e 4 h4
  have e5 := e 5 h5
  simp at e0 e1 e2 e3 e4 e5
  omega

