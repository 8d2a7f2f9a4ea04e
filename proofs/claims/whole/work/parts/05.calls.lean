/-! copies, calls, a method's start and end -/
theorem cpy_cI (S : St) (a0 sp a1 dp n : Nat) : va_cpy (rI S a0) (rI S a1) sp dp n = rI (cI S a0 sp a1 dp n) a1 := by
  funext j
  simp [rI, cI, va_cpy]
theorem cpy_cJ (S : St) (a0 sp a1 dp n : Nat) : va_cpy (rJ S a0) (rJ S a1) sp dp n = rJ (cJ S a0 sp a1 dp n) a1 := by
  funext j
  simp [rJ, cJ, va_cpy]
theorem cpy_cF (S : St) (f : Nat → Int32) (sp a1 dp n : Nat) : va_cpy f (rI S a1) sp dp n = rI (cF S f sp a1 dp n) a1 := by
  funext j
  simp [rI, cF, va_cpy]
theorem cI_cell (E : En) (S : St) (a0 sp a1 dp n : Nat) : ∀ y, y ≠ a1 → cellOf E (cI S a0 sp a1 dp n) y = cellOf E S y := fun y hy => cell_congr E (fun j => by simp [rI, cI, hy]) (fun _ => rfl) (fun _ => rfl)
theorem cJ_cell (E : En) (S : St) (a0 sp a1 dp n : Nat) : ∀ y, y ≠ a1 → cellOf E (cJ S a0 sp a1 dp n) y = cellOf E S y := fun y hy => cell_congr E (fun _ => rfl) (fun j => by simp [rJ, cJ, hy]) (fun _ => rfl)
theorem cF_cell (E : En) (S : St) (f : Nat → Int32) (sp a1 dp n : Nat) : ∀ y, y ≠ a1 → cellOf E (cF S f sp a1 dp n) y = cellOf E S y := fun y hy => cell_congr E (fun j => by simp [rI, cF, hy]) (fun _ => rfl) (fun _ => rfl)
section CALLS
variable {p : Program} {l : Launch} {e : Env} {R : Room} {s : State} {m : MethodId} {args : Array Value} {below : List Frame} {meth : Method} {c : Code} {H : Heap} {locs : List Loc} {cells slots : Nat} {Q : State → Prop}
variable {cc : ByteArray} {nL pc : Nat} {ls : Array Slot} {rest : List Value} {E : En} {S S1 : St} {own : String} {Us : List Cond} {id : Nat} {i x v : Int32}
/-- what a call of arraycopy links -/
def lkC (own : String) (index : Nat) : Prop := Cond.methodLink own index arraycopyName ∈ UU ∧ Cond.native arraycopyName ∈ UU ∧ Cond.static arraycopyName ∈ UU ∧ Cond.initialized "java/lang/System" ∈ UU
theorem g_copyI {index a0 a1 : Nat} {sp dp n : Int32} (C : Cx E p s m args c cc nL own Us) (hUs : ∀ w ∈ UU, w ∈ Us) (hW : Ww E S s H locs) (hls : ls.size = nL) (hlk : lkC own index) (hfr : 1 ≤ R.frames) (hlo : (rest.map fun v => v.category).sum + (nativeFrameWords "java/lang/System" "arraycopy" 5 + 11) ≤ R.locals) (h : cpI S a0 sp a1 dp n = some S1) (hdg : decode cc pc = .ok (.invokestatic index, 3))
    (kk : ∀ (H1 : Heap) (locs1 : List Loc), Ww E S1 s H1 locs1 → W p l e R s m args below meth c H1 locs1 cells slots Q (F0 m (pc + 3) ls rest)) : W p l e R s m args below meth c H locs cells slots Q (F0 m pc ls (.int n :: .int dp :: .ref (E.ad a1) :: .int sp :: .ref (E.ad a0) :: rest)) := by
  obtain ⟨⟨⟨k0, m0⟩, ⟨k1, m1⟩, ⟨h1, h2, h3⟩, h4, h5⟩, rfl⟩ := if_so h
  obtain ⟨⟨hx, hb, hml, hown, hts⟩, hK, -⟩ := C
  obtain ⟨j0, hj0, -⟩ := ws_at E m0
  obtain ⟨j1, hj1, hj2⟩ := ws_at E m1
  rw [cell_arr E S k0 (by decide) (by decide) (by decide) (by decide)] at hj0
  rw [cell_arr E S k1 (by decide) (by decide) (by decide) (by decide)] at hj1
  refine va_copyi hx hb (hml.trans hls.symm) hown (hts _ (hUs _ hlk.1)) (hts _ (hUs _ hlk.2.1)) (hts _ (hUs _ hlk.2.2.1)) (hts _ (hUs _ hlk.2.2.2)) hK hW.1 hW.2.1 hW.2.2 j0 j1 1 1 (ty := .int) hj0 hj1 rfl rfl rfl h1 h2 h3 h4 h5 (fun _ _ => rfl) hfr hlo hdg (fun H1 locs1 p1 d1 s1 => kk H1 locs1 ?_)
  rw [cpy_cI, ← cell_arr E (cI S a0 sp.toNatClampNeg a1 dp.toNatClampNeg n.toNatClampNeg) k1 (by decide) (by decide) (by decide) (by decide), ws_set E (S' := cI S a0 sp.toNatClampNeg a1 dp.toNatClampNeg n.toNatClampNeg) hj2 rfl (cI_cell E S _ _ _ _ _)] at p1 d1
  exact ⟨p1, d1, s1⟩
theorem g_copyJ {index a0 a1 : Nat} {sp dp n : Int32} (C : Cx E p s m args c cc nL own Us) (hUs : ∀ w ∈ UU, w ∈ Us) (hW : Ww E S s H locs) (hls : ls.size = nL) (hlk : lkC own index) (hfr : 1 ≤ R.frames) (hlo : (rest.map fun v => v.category).sum + (nativeFrameWords "java/lang/System" "arraycopy" 5 + 11) ≤ R.locals) (h : cpJ S a0 sp a1 dp n = some S1) (hdg : decode cc pc = .ok (.invokestatic index, 3))
    (kk : ∀ (H1 : Heap) (locs1 : List Loc), Ww E S1 s H1 locs1 → W p l e R s m args below meth c H1 locs1 cells slots Q (F0 m (pc + 3) ls rest)) : W p l e R s m args below meth c H locs cells slots Q (F0 m pc ls (.int n :: .int dp :: .ref (E.ad a1) :: .int sp :: .ref (E.ad a0) :: rest)) := by
  obtain ⟨⟨⟨k0, m0⟩, ⟨k1, m1⟩, ⟨h1, h2, h3⟩, h4, h5⟩, rfl⟩ := if_so h
  obtain ⟨⟨hx, hb, hml, hown, hts⟩, hK, -⟩ := C
  obtain ⟨j0, hj0, -⟩ := ws_at E m0
  obtain ⟨j1, hj1, hj2⟩ := ws_at E m1
  rw [cell_lon E S k0] at hj0
  rw [cell_lon E S k1] at hj1
  refine va_copyl hx hb (hml.trans hls.symm) hown (hts _ (hUs _ hlk.1)) (hts _ (hUs _ hlk.2.1)) (hts _ (hUs _ hlk.2.2.1)) (hts _ (hUs _ hlk.2.2.2)) hK hW.1 hW.2.1 hW.2.2 j0 j1 2 2 (ty := .long) hj0 hj1 rfl rfl rfl h1 h2 h3 h4 h5 (fun _ _ => rfl) hfr hlo hdg (fun H1 locs1 p1 d1 s1 => kk H1 locs1 ?_)
  rw [cpy_cJ, ← cell_lon E (cJ S a0 sp.toNatClampNeg a1 dp.toNatClampNeg n.toNatClampNeg) k1, ws_set E (S' := cJ S a0 sp.toNatClampNeg a1 dp.toNatClampNeg n.toNatClampNeg) hj2 rfl (cJ_cell E S _ _ _ _ _)] at p1 d1
  exact ⟨p1, d1, s1⟩
theorem g_copyF {index a1 : Nat} {sp dp n : Int32} (C : Cx E p s m args c cc nL own Us) (hUs : ∀ w ∈ UU, w ∈ Us) (hW : Ww E S s H locs) (hls : ls.size = nL) (hlk : lkC own index) (hfr : 1 ≤ R.frames) (hlo : (rest.map fun v => v.category).sum + (nativeFrameWords "java/lang/System" "arraycopy" 5 + 11) ≤ R.locals) (h : cpF S FIRSTV sp a1 dp n = some S1) (hdg : decode cc pc = .ok (.invokestatic index, 3))
    (kk : ∀ (H1 : Heap) (locs1 : List Loc), Ww E S1 s H1 locs1 → W p l e R s m args below meth c H1 locs1 cells slots Q (F0 m (pc + 3) ls rest)) : W p l e R s m args below meth c H locs cells slots Q (F0 m pc ls (.int n :: .int dp :: .ref (E.ad a1) :: .int sp :: .ref E.2.2.2.2.1 :: rest)) := by
  obtain ⟨⟨⟨k1, m1⟩, ⟨h1, h2, h3⟩, h4, h5⟩, rfl⟩ := if_so h
  obtain ⟨⟨hx, hb, hml, hown, hts⟩, hK, hT, -⟩ := C
  obtain ⟨j1, hj1, hj2⟩ := ws_at E m1
  rw [cell_arr E S k1 (by decide) (by decide) (by decide) (by decide)] at hj1
  refine va_copyx hx hb (hml.trans hls.symm) hown (hts _ (hUs _ hlk.1)) (hts _ (hUs _ hlk.2.1)) (hts _ (hUs _ hlk.2.2.1)) (hts _ (hUs _ hlk.2.2.2)) hK hW.1 hW.2.1 hW.2.2 hT.1.2.1 (Tb_lt1 hT) (Nat.not_le.mpr hT.1.2.2) j1 1 hj1 rfl h1 h2 h3 h4 h5 hfr hlo hdg (fun H1 locs1 p1 d1 s1 => kk H1 locs1 ?_)
  rw [cpy_cF, ← cell_arr E (cF S FIRSTV sp.toNatClampNeg a1 dp.toNatClampNeg n.toNatClampNeg) k1 (by decide) (by decide) (by decide) (by decide), ws_set E (S' := cF S FIRSTV sp.toNatClampNeg a1 dp.toNatClampNeg n.toNatClampNeg) hj2 rfl (cF_cell E S _ _ _ _ _)] at p1 d1
  exact ⟨p1, d1, s1⟩
theorem Tb_moved {s t : State} (hvm : s.vm.Alike t.vm) (hq : ∀ a : Nat, a < s.heap.size → ¬ Ab E a → t.heap[a]? = s.heap[a]?) (h : Tb E s s.heap) : Tb E t t.heap := by
  have l1 := Tb_lt1 h
  have l2 := Tb_lt2 h
  obtain ⟨⟨a1, a2, a3⟩, b1, b2, b3⟩ := h
  exact ⟨⟨(va_Z.moved hvm a1).kept hq, (va_X.moved hvm a2).kept (hq _ l1 (Nat.not_le.mpr a3)), a3⟩, (va_Z.moved hvm b1).kept hq, (va_X.moved hvm b2).kept (hq _ l2 (Nat.not_le.mpr b3)), b3⟩
theorem Pw_blind (E : En) (S : St) (av : List Value) : FrameBlind (va_Pc av (Pw E S)) := fun a U g mk h => by
  obtain ⟨h0, h1, h2, h3, h4, h5⟩ := h
  exact ⟨h0, h1, h2, va_K.moved (u := U) (U := U.calling g mk a) (Vm.Alike.refl U.vm) h3, Tb_moved (s := U) (t := U.calling g mk a) (Vm.Alike.refl U.vm) (fun _ _ _ => rfl) h4, Nn_vm (s := U) rfl h5⟩
theorem Pw_of {t : State} (hK : va_K E.1 cl (tys E) s) (hT : Tb E s s.heap ∧ Nn s) (hW : Ww E S s H locs) (ht : t.heap = H) (hvm : s.WarmedH t.vm) : Pw E S t := by
  refine ⟨by rw [ht]; exact hW.1, hW.2.1, va_K.moved hvm.alike hK, Tb_moved hvm.alike (fun a h1 h2 => by rw [ht]; exact hW.2.2.2.1 a h1 h2) hT.1, Nn_warm hvm hT.2⟩
/-- the words of a call of an instance method -/
def lkV (own C : String) (index : Nat) (y : MethodName) (bytes : ByteArray) (maxL : Nat) (ret : Option FieldType) (n : Nat) : Prop :=
  (Cond.methodLink own index y ∈ UU ∧ Cond.instanceMethod y ∈ UU ∧ Cond.selects C y y ∈ UU ∧ Cond.initialized C ∈ UU ∧ Cond.code y bytes maxL ret ∈ UU) ∧ (y.cls = C ∧ y.cls ≠ "java/lang/invoke/MethodHandle" ∧ y.cls ≠ "java/lang/invoke/VarHandle" ∧ (parseMethodDescriptor y.desc).map (fun d => d.parameters.length) = some n)
def lkS (own : String) (index : Nat) (y : MethodName) (bytes : ByteArray) (maxL : Nat) (ret : Option FieldType) (n : Nat) : Prop :=
  (Cond.methodLink own index y ∈ UU ∧ Cond.static y ∈ UU ∧ Cond.initialized y.cls ∈ UU ∧ Cond.code y bytes maxL ret ∈ UU) ∧ (y.cls ≠ "java/lang/invoke/MethodHandle" ∧ y.cls ≠ "java/lang/invoke/VarHandle" ∧ (parseMethodDescriptor y.desc).map (fun d => d.parameters.length) = some n)
/-- contracts: the int answer, nothing -/
abbrev Mi (l : Launch) (E : En) (y : MethodName) (cc : ByteArray) (n : Nat) (ret : Option FieldType) (rm : Room) (av : List Value) (S : St) (r : Int32) (S1 : St) : Prop := Met l y (Cond.code y cc n ret :: UU) rm (va_Pc av (Pw E S)) (va_Qi (fun (x : Int32) (u : St) => x = r ∧ u = S1) (Pw E) (Ab E)) 0 0 (Ab E)
abbrev Mv (l : Launch) (E : En) (y : MethodName) (cc : ByteArray) (n : Nat) (ret : Option FieldType) (rm : Room) (av : List Value) (S S1 : St) : Prop := Met l y (Cond.code y cc n ret :: UU) rm (va_Pc av (Pw E S)) (va_Qv (fun (u : St) => u = S1) (Pw E) (Ab E)) 0 0 (Ab E)
theorem g_recv {ci : Nat} {q : vw_C} (hK : va_K E.1 cl (tys E) s) (hW : Ww E S s H locs) (hc : cl[ci]? = some q) (hk0 : kk_ id = 0) (hk1 : kl id = ci) (hid : id ∈ ids S) : ∃ cell : Cell, H[E.ad id]? = some cell ∧ cell.vm.isStatics = false ∧ s.vm.findClass q.1 = some cell.cls := by
  obtain ⟨j, hj, -⟩ := ws_at E hid
  rw [cell_obj E S hk0 hk1] at hj
  exact va_recv hK hW.1 hc hj
theorem g_preV {q : vw_C} {ci : Nat} {As : List Value} (C : Cx E p s m args c cc nL own Us) (hW : Ww E S s H locs) (hc : cl[ci]? = some q) (hk0 : kk_ id = 0) (hk1 : kl id = ci) (hid : id ∈ ids S) : PreV s H q.1 (E.ad id) (va_Pc (.ref (E.ad id) :: As) (Pw E S)) As :=
  ⟨Pw_blind E S _, g_recv C.2.1 hW hc hk0 hk1 hid, fun U hU hw => ⟨rfl, Pw_of C.2.1 C.2.2 hW hU hw⟩⟩
theorem g_preS {As : List Value} (C : Cx E p s m args c cc nL own Us) (hW : Ww E S s H locs) : PreS s H (va_Pc As (Pw E S)) As :=
  ⟨Pw_blind E S _, fun U hU hw => ⟨rfl, Pw_of C.2.1 C.2.2 hW hU hw⟩⟩
theorem g_afterP {t : State} {H1 : Heap} {locs1 : List Loc} (ht : t.heap = H1) (hB : Pw E S1 t) (hS : va_S (Ab E) s.heap H1 locs1) : Ww E S1 s H1 locs1 := ⟨by rw [← ht]; exact hB.1, hB.2.1, hS⟩
theorem g_callVi {q : vw_C} {ci index maxL n : Nat} {y : MethodName} {bytes : ByteArray} {ret : Option FieldType} {rm : Room} {As : List Value} {r : Int32} (C : Cx E p s m args c cc nL own Us) (hUs : ∀ w ∈ UU, w ∈ Us) (hW : Ww E S s H locs) (hls : ls.size = nL) (hM : Mi l E y bytes maxL ret rm (.ref (E.ad id) :: As) S r S1) (hc : cl[ci]? = some q) (hk0 : kk_ id = 0) (hk1 : kl id = ci) (hid : id ∈ ids S) (hlk : lkV own q.1 index y bytes maxL ret n) (hn : As.length = n) (hrm : rm.cells = 0 ∧ rm.slots = 0) (hR : rm.frames + 1 ≤ R.frames ∧ 8 + (maxL + 11) + rm.locals ≤ R.locals) (hf : cells ≤ R.cells ∧ slots ≤ R.slots) (st : List Value) (hst : st = As.reverse ++ .ref (E.ad id) :: rest) (hroom : (rest.map fun v => v.category).sum ≤ 8) (hdg : decode cc pc = .ok (.invokevirtual index, 3))
    (kk : ∀ (H1 : Heap) (locs1 : List Loc), Ww E S1 s H1 locs1 → W p l e R s m args below meth c H1 locs1 cells slots Q (F0 m (pc + 3) ls (.int r :: rest))) : W p l e R s m args below meth c H locs cells slots Q (F0 m pc ls st) := by
  obtain ⟨hl, hd⟩ := hlk
  refine va_calli (va_runV (As := As) (rest := rest) (C := q.1) C.1 hM (cwV n C.1.2.2.2.2 (gUV hUs hl.1 hl.2.1 hl.2.2.1 hl.2.2.2.1 hl.2.2.2.2) rfl hrm.1 hrm.2 hd hR) (g_preV C hW hc hk0 hk1 hid) rfl hn hls hst (lv_room hroom) hdg hf) hW.2.2 (fun q _ h => h) (fun q h => h) (fun r1 u t H1 locs1 ht hvm hw hB hz1 hk1 hS => ?_)
  obtain ⟨rfl, rfl⟩ := hw
  exact kk H1 locs1 (g_afterP ht hB hS)
theorem g_callVv {q : vw_C} {ci index maxL n : Nat} {y : MethodName} {bytes : ByteArray} {ret : Option FieldType} {rm : Room} {As : List Value} (C : Cx E p s m args c cc nL own Us) (hUs : ∀ w ∈ UU, w ∈ Us) (hW : Ww E S s H locs) (hls : ls.size = nL) (hM : Mv l E y bytes maxL ret rm (.ref (E.ad id) :: As) S S1) (hc : cl[ci]? = some q) (hk0 : kk_ id = 0) (hk1 : kl id = ci) (hid : id ∈ ids S) (hlk : lkV own q.1 index y bytes maxL ret n) (hn : As.length = n) (hrm : rm.cells = 0 ∧ rm.slots = 0) (hR : rm.frames + 1 ≤ R.frames ∧ 8 + (maxL + 11) + rm.locals ≤ R.locals) (hf : cells ≤ R.cells ∧ slots ≤ R.slots) (st : List Value) (hst : st = As.reverse ++ .ref (E.ad id) :: rest) (hroom : (rest.map fun v => v.category).sum ≤ 8) (hdg : decode cc pc = .ok (.invokevirtual index, 3))
    (kk : ∀ (H1 : Heap) (locs1 : List Loc), Ww E S1 s H1 locs1 → W p l e R s m args below meth c H1 locs1 cells slots Q (F0 m (pc + 3) ls rest)) : W p l e R s m args below meth c H locs cells slots Q (F0 m pc ls st) := by
  obtain ⟨hl, hd⟩ := hlk
  refine va_callv (va_runV (As := As) (rest := rest) (C := q.1) C.1 hM (cwV n C.1.2.2.2.2 (gUV hUs hl.1 hl.2.1 hl.2.2.1 hl.2.2.2.1 hl.2.2.2.2) rfl hrm.1 hrm.2 hd hR) (g_preV C hW hc hk0 hk1 hid) rfl hn hls hst (lv_room hroom) hdg hf) hW.2.2 (fun q _ h => h) (fun q h => h) (fun u t H1 locs1 ht hvm hw hB hz1 hk1 hS => ?_)
  subst hw
  exact kk H1 locs1 (g_afterP ht hB hS)
theorem g_callSi {index maxL n : Nat} {y : MethodName} {bytes : ByteArray} {ret : Option FieldType} {rm : Room} {As : List Value} {r : Int32} (C : Cx E p s m args c cc nL own Us) (hUs : ∀ w ∈ UU, w ∈ Us) (hW : Ww E S s H locs) (hls : ls.size = nL) (hM : Mi l E y bytes maxL ret rm As S r S1) (hlk : lkS own index y bytes maxL ret n) (hn : As.length = n) (hrm : rm.cells = 0 ∧ rm.slots = 0) (hR : rm.frames + 1 ≤ R.frames ∧ 8 + (maxL + 11) + rm.locals ≤ R.locals) (hf : cells ≤ R.cells ∧ slots ≤ R.slots) (st : List Value) (hst : st = As.reverse ++ rest) (hroom : (rest.map fun v => v.category).sum ≤ 8) (hdg : decode cc pc = .ok (.invokestatic index, 3))
    (kk : ∀ (H1 : Heap) (locs1 : List Loc), Ww E S1 s H1 locs1 → W p l e R s m args below meth c H1 locs1 cells slots Q (F0 m (pc + 3) ls (.int r :: rest))) : W p l e R s m args below meth c H locs cells slots Q (F0 m pc ls st) := by
  obtain ⟨hl, hd⟩ := hlk
  refine va_calli (va_runS (As := As) (rest := rest) C.1 hM (va_cwS n C.1.2.2.2.2 (gUS hUs hl.1 hl.2.1 hl.2.2.1 hl.2.2.2) rfl hrm.1 hrm.2 hd hR) (g_preS C hW) rfl hn hls hst (lv_room hroom) hdg hf) hW.2.2 (fun q _ h => h) (fun q h => h) (fun r1 u t H1 locs1 ht hvm hw hB hz1 hk1 hS => ?_)
  obtain ⟨rfl, rfl⟩ := hw
  exact kk H1 locs1 (g_afterP ht hB hS)
theorem g_callSv {index maxL n : Nat} {y : MethodName} {bytes : ByteArray} {ret : Option FieldType} {rm : Room} {As : List Value} (C : Cx E p s m args c cc nL own Us) (hUs : ∀ w ∈ UU, w ∈ Us) (hW : Ww E S s H locs) (hls : ls.size = nL) (hM : Mv l E y bytes maxL ret rm As S S1) (hlk : lkS own index y bytes maxL ret n) (hn : As.length = n) (hrm : rm.cells = 0 ∧ rm.slots = 0) (hR : rm.frames + 1 ≤ R.frames ∧ 8 + (maxL + 11) + rm.locals ≤ R.locals) (hf : cells ≤ R.cells ∧ slots ≤ R.slots) (st : List Value) (hst : st = As.reverse ++ rest) (hroom : (rest.map fun v => v.category).sum ≤ 8) (hdg : decode cc pc = .ok (.invokestatic index, 3))
    (kk : ∀ (H1 : Heap) (locs1 : List Loc), Ww E S1 s H1 locs1 → W p l e R s m args below meth c H1 locs1 cells slots Q (F0 m (pc + 3) ls rest)) : W p l e R s m args below meth c H locs cells slots Q (F0 m pc ls st) := by
  obtain ⟨hl, hd⟩ := hlk
  refine va_callv (va_runS (As := As) (rest := rest) C.1 hM (va_cwS n C.1.2.2.2.2 (gUS hUs hl.1 hl.2.1 hl.2.2.1 hl.2.2.2) rfl hrm.1 hrm.2 hd hR) (g_preS C hW) rfl hn hls hst (lv_room hroom) hdg hf) hW.2.2 (fun q _ h => h) (fun q h => h) (fun u t H1 locs1 ht hvm hw hB hz1 hk1 hS => ?_)
  subst hw
  exact kk H1 locs1 (g_afterP ht hB hS)
/-- Math's three -/
def lkM (own : String) (index : Nat) (y : MethodName) (bytes : ByteArray) (n : Nat) : Prop := Cond.methodLink own index y ∈ UU ∧ Cond.static y ∈ UU ∧ Cond.initialized "java/lang/Math" ∈ UU ∧ Cond.code y bytes n (some .int) ∈ UU
theorem g_max {index : Nat} {x y : Int32} (C : Cx E p s m args c cc nL own Us) (hUs : ∀ w ∈ UU, w ∈ Us) (hls : ls.size = nL) (hlk : lkM own index Lib.Math.max.name Lib.Math.max.code 2) (hfr : 1 ≤ R.frames) (hlo : (rest.map fun v => v.category).sum + 13 ≤ R.locals) (hf : cells ≤ R.cells ∧ slots ≤ R.slots) (hdg : decode cc pc = .ok (.invokestatic index, 3))
    (kk : W p l e R s m args below meth c H locs cells slots Q (F0 m (pc + 3) ls (.int (if x < y then y else x) :: rest))) : W p l e R s m args below meth c H locs cells slots Q (F0 m pc ls (.int y :: .int x :: rest)) :=
  va_mmax C.1.1 C.1.2.1 (C.1.2.2.1.trans hls.symm) C.1.2.2.2.1 (C.1.2.2.2.2 _ (hUs _ hlk.1)) (C.1.2.2.2.2 _ (hUs _ hlk.2.1)) (C.1.2.2.2.2 _ (hUs _ hlk.2.2.1)) (C.1.2.2.2.2 _ (hUs _ hlk.2.2.2)) hfr hlo hf.1 hf.2 hdg kk
theorem g_min {index : Nat} {x y : Int32} (C : Cx E p s m args c cc nL own Us) (hUs : ∀ w ∈ UU, w ∈ Us) (hls : ls.size = nL) (hlk : lkM own index Lib.Math.min.name Lib.Math.min.code 2) (hfr : 1 ≤ R.frames) (hlo : (rest.map fun v => v.category).sum + 13 ≤ R.locals) (hf : cells ≤ R.cells ∧ slots ≤ R.slots) (hdg : decode cc pc = .ok (.invokestatic index, 3))
    (kk : W p l e R s m args below meth c H locs cells slots Q (F0 m (pc + 3) ls (.int (if y < x then y else x) :: rest))) : W p l e R s m args below meth c H locs cells slots Q (F0 m pc ls (.int y :: .int x :: rest)) :=
  va_mmin C.1.1 C.1.2.1 (C.1.2.2.1.trans hls.symm) C.1.2.2.2.1 (C.1.2.2.2.2 _ (hUs _ hlk.1)) (C.1.2.2.2.2 _ (hUs _ hlk.2.1)) (C.1.2.2.2.2 _ (hUs _ hlk.2.2.1)) (C.1.2.2.2.2 _ (hUs _ hlk.2.2.2)) hfr hlo hf.1 hf.2 hdg kk
theorem g_abs {index : Nat} {x : Int32} (C : Cx E p s m args c cc nL own Us) (hUs : ∀ w ∈ UU, w ∈ Us) (hls : ls.size = nL) (hlk : lkM own index Lib.Math.abs.name Lib.Math.abs.code 1) (hfr : 1 ≤ R.frames) (hlo : (rest.map fun v => v.category).sum + 13 ≤ R.locals) (hf : cells ≤ R.cells ∧ slots ≤ R.slots) (hdg : decode cc pc = .ok (.invokestatic index, 3))
    (kk : W p l e R s m args below meth c H locs cells slots Q (F0 m (pc + 3) ls (.int (if 0 ≤ x then x else 0 - x) :: rest))) : W p l e R s m args below meth c H locs cells slots Q (F0 m pc ls (.int x :: rest)) :=
  va_mabs C.1.1 C.1.2.1 (C.1.2.2.1.trans hls.symm) C.1.2.2.2.1 (C.1.2.2.2.2 _ (hUs _ hlk.1)) (C.1.2.2.2.2 _ (hUs _ hlk.2.1)) (C.1.2.2.2.2 _ (hUs _ hlk.2.2.1)) (C.1.2.2.2.2 _ (hUs _ hlk.2.2.2)) hfr hlo hf.1 hf.2 hdg kk
theorem g_us {w0 : Cond} : ∀ w ∈ UU, w ∈ w0 :: UU := fun _ h => List.mem_cons_of_mem _ h
/-- a method's start: the words are its code and UU; what comes behind its end is a hypothesis -/
theorem g_startI {y : MethodName} {n : Nat} {av : List Value} {rm : Room} {r : Int32} (hy : plainName y.cls = true) (hlen : (lg_sl av).length ≤ n)
    (body : ∀ (p : Program) (e : Env) (s : State) (m : MethodId) (args : Array Value) (below : List Frame) (meth : Method) (c : Code) (Q : State → Prop) (H : Heap) (locs : List Loc), Cx E p s m args c cc n y.cls (Cond.code y cc n (some .int) :: UU) → (∀ (H : Heap) (locs : List Loc) (pc : Nat) (ls : Array Slot), Ww E S1 s H locs → decode cc pc = .ok (.ireturn, 1) → W p l e rm s m args below meth c H locs 0 0 Q (F0 m pc ls [.int r])) → Ww E S s H locs → ∀ ls : Array Slot, lv_has ls n (lv_args 0 av) → W p l e rm s m args below meth c H locs 0 0 Q (F0 m 0 ls [])) : Mi l E y cc n (some .int) rm av S r S1 := by
  refine Met.ofW (cc := cc) (maxL := n) (ret := some .int) hy rfl ?_
  intro p e s m args below meth c s₁ B hml hv
  obtain ⟨rfl, h1, h2, h3, h4⟩ := hv
  have hl := lv_entry av (n := n) hlen
  rw [lg_entry_eq]
  have C : Cx E p s m av.toArray c cc n y.cls (Cond.code y cc n (some .int) :: UU) := ⟨⟨B.exec, B.bytes, hml, findClass_of_methodNamed B.named, atoms_spec (ws := Cond.code y cc n (some .int) :: UU) B.pre⟩, h3, h4⟩
  refine body p e s m _ below meth c _ _ _ C (fun H locs pc ls hW hdg => ?_) ⟨h1, h2, va_S.rf⟩ _ hl
  exact W.iret C.1.1 C.1.2.1 B.returns (fun t ht hw => ⟨⟨r, S1, rfl, ⟨rfl, rfl⟩, Pw_of C.2.1 C.2.2 hW ht hw⟩, hW.2.2.F ht⟩) hW.2.2.2.2 hdg B.notSynchronized
theorem g_startZ {y : MethodName} {n : Nat} {av : List Value} {rm : Room} {r : Int32} (hy : plainName y.cls = true) (hlen : (lg_sl av).length ≤ n)
    (body : ∀ (p : Program) (e : Env) (s : State) (m : MethodId) (args : Array Value) (below : List Frame) (meth : Method) (c : Code) (Q : State → Prop) (H : Heap) (locs : List Loc), Cx E p s m args c cc n y.cls (Cond.code y cc n (some .boolean) :: UU) → (∀ (H : Heap) (locs : List Loc) (pc : Nat) (ls : Array Slot), Ww E S1 s H locs → (r = 0 ∨ r = 1) → decode cc pc = .ok (.ireturn, 1) → W p l e rm s m args below meth c H locs 0 0 Q (F0 m pc ls [.int r])) → Ww E S s H locs → ∀ ls : Array Slot, lv_has ls n (lv_args 0 av) → W p l e rm s m args below meth c H locs 0 0 Q (F0 m 0 ls [])) : Mi l E y cc n (some .boolean) rm av S r S1 := by
  refine Met.ofW (cc := cc) (maxL := n) (ret := some .boolean) hy rfl ?_
  intro p e s m args below meth c s₁ B hml hv
  obtain ⟨rfl, h1, h2, h3, h4⟩ := hv
  have hl := lv_entry av (n := n) hlen
  rw [lg_entry_eq]
  have C : Cx E p s m av.toArray c cc n y.cls (Cond.code y cc n (some .boolean) :: UU) := ⟨⟨B.exec, B.bytes, hml, findClass_of_methodNamed B.named, atoms_spec (ws := Cond.code y cc n (some .boolean) :: UU) B.pre⟩, h3, h4⟩
  refine body p e s m _ below meth c _ _ _ C (fun H locs pc ls hW hz hdg => ?_) ⟨h1, h2, va_S.rf⟩ _ hl
  exact W.zret C.1.1 C.1.2.1 B.returns (by rcases hz with rfl | rfl <;> rfl) (fun t ht hw => ⟨⟨r, S1, rfl, ⟨rfl, rfl⟩, Pw_of C.2.1 C.2.2 hW ht hw⟩, hW.2.2.F ht⟩) hW.2.2.2.2 hdg B.notSynchronized
theorem g_startV {y : MethodName} {n : Nat} {av : List Value} {rm : Room} (hy : plainName y.cls = true) (hlen : (lg_sl av).length ≤ n)
    (body : ∀ (p : Program) (e : Env) (s : State) (m : MethodId) (args : Array Value) (below : List Frame) (meth : Method) (c : Code) (Q : State → Prop) (H : Heap) (locs : List Loc), Cx E p s m args c cc n y.cls (Cond.code y cc n none :: UU) → (∀ (H : Heap) (locs : List Loc) (pc : Nat) (ls : Array Slot), Ww E S1 s H locs → decode cc pc = .ok (.return_, 1) → W p l e rm s m args below meth c H locs 0 0 Q (F0 m pc ls [])) → Ww E S s H locs → ∀ ls : Array Slot, lv_has ls n (lv_args 0 av) → W p l e rm s m args below meth c H locs 0 0 Q (F0 m 0 ls [])) : Mv l E y cc n none rm av S S1 := by
  refine Met.ofW (cc := cc) (maxL := n) (ret := none) hy rfl ?_
  intro p e s m args below meth c s₁ B hml hv
  obtain ⟨rfl, h1, h2, h3, h4⟩ := hv
  have hl := lv_entry av (n := n) hlen
  rw [lg_entry_eq]
  have C : Cx E p s m av.toArray c cc n y.cls (Cond.code y cc n none :: UU) := ⟨⟨B.exec, B.bytes, hml, findClass_of_methodNamed B.named, atoms_spec (ws := Cond.code y cc n none :: UU) B.pre⟩, h3, h4⟩
  refine body p e s m _ below meth c _ _ _ C (fun H locs pc ls hW hdg => ?_) ⟨h1, h2, va_S.rf⟩ _ hl
  exact W.vret C.1.1 C.1.2.1 B.returns (fun t ht hw => ⟨⟨S1, rfl, rfl, Pw_of C.2.1 C.2.2 hW ht hw⟩, hW.2.2.F ht⟩) hW.2.2.2.2 hdg B.notSynchronized
end CALLS
