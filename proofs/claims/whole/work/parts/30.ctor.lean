/-! constructors: worlds as lists of cells; classes of arrays as E has them -/
def Kx (E : En) (U : State) : Prop := va_K E.1 cl (tys E) U ∧ Nn U
/-- what does not change within a constructor -/
def Cc (E : En) (p : Program) (s : State) (m : MethodId) (args : Array Value) (c : Code) (cc : ByteArray) (nL : Nat) (own : String) (U : List Cond) : Prop := CallFix p m c cc nL s args U own ∧ Kx E s
theorem range_at {α : Type} (l r : List α) : (List.range l.length).map (fun i => (l ++ r)[i]?) = l.map some := by
  apply List.ext_getElem?
  intro k
  rw [List.getElem?_map, List.getElem?_map]
  by_cases h : k < l.length
  · rw [List.getElem?_range h, Option.map_some, List.getElem?_append_left h, List.getElem?_eq_getElem h]
    rfl
  · rw [List.getElem?_eq_none (by rw [List.length_range]; omega), List.getElem?_eq_none (by omega)]
    rfl
theorem nd_range : ∀ n : Nat, va_nd (List.range n) = true := by
  intro n
  have key : ∀ l : List Nat, l.Nodup → va_nd l = true := by
    intro l
    induction l with
    | nil => intro _; rfl
    | cons a l ih =>
      intro h
      have h := List.nodup_cons.mp h
      simp only [va_nd, Bool.and_eq_true, decide_eq_true_eq]
      exact ⟨h.1, ih h.2⟩
  exact key _ List.nodup_range
section CTOR
variable {p : Program} {l : Launch} {e : Env} {R : Room} {s : State} {m : MethodId} {args : Array Value} {below : List Frame} {meth : Method} {c : Code} {H H0 : Heap} {locs : List Loc} {cells slots : Nat} {Q : State → Prop}
variable {cc : ByteArray} {nL pc : Nat} {ls : Array Slot} {rest : List Value} {E : En} {own : String} {Us : List Cond} {A : Nat → Prop} {ws : va_W}
/-- the contract of a constructor: from an object with its fields' first values to its cells -/
abbrev Mc (l : Launch) (E : En) (y : MethodName) (cc : ByteArray) (n : Nat) (rm : Room) (ci : Nat) (fs : List Value) (cells : (Nat → Nat) → va_W) (mc ms : Nat) (Ex : State → Prop) (h0 sz : Nat) : Prop :=
  Met l y (Cond.code y cc n none :: UU) rm (va_Pc [.ref h0] (fun U => U.heap.size = sz ∧ va_P E.1 cl [(h0, .inr (ci, fs))] U.heap ∧ va_D (fun _ => True) [(h0, .inr (ci, fs))] ∧ Kx E U ∧ Ex U)) (va_Qv (fun (u : Nat → Nat) => u 0 = h0) (fun u t => va_P E.1 cl (cells u) t.heap ∧ va_D (va_A [(h0, .inr (ci, fs))] sz) (cells u)) (va_A [(h0, .inr (ci, fs))] sz)) mc ms (va_A [(h0, .inr (ci, fs))] sz)
theorem Kx_warm {U : State} (hW : s.WarmedH U.vm) (h : Kx E s) : Kx E U := ⟨va_K.moved hW.alike h.1, Nn_warm hW h.2⟩
theorem Kx_vm {U : State} (hvm : s.vm = U.vm) (h : Kx E s) : Kx E U := ⟨va_K.moved (by rw [hvm]; exact Vm.Alike.refl _) h.1, Nn_vm hvm h.2⟩
theorem cst {y : MethodName} {n ci mc ms h0 sz : Nat} {fs : List Value} {rm : Room} {cs : (Nat → Nat) → va_W} {Ex : State → Prop} (hy : plainName y.cls = true) (hyn : y.name = "<init>") (hn : 1 ≤ n)
    (body : ∀ (p : Program) (e : Env) (s : State) (m : MethodId) (args : Array Value) (below : List Frame) (meth : Method) (c : Code) (Q : State → Prop) (H0 : Heap) (A : Nat → Prop), Cc E p s m args c cc n y.cls (Cond.code y cc n none :: UU) → Ex s → meth.name = "<init>" → (∀ q, H0.size ≤ q → A q) →
      (∀ (u : Nat → Nat) (H : Heap) (locs : List Loc) (pc : Nat) (ls : Array Slot), u 0 = h0 → va_P E.1 cl (cs u) H → va_D A (cs u) → va_S A H0 H locs → decode cc pc = .ok (.return_, 1) → W p l e rm s m args below meth c H locs mc ms Q (F0 m pc ls [])) →
      va_P E.1 cl [(h0, .inr (ci, fs))] H0 → va_D A [(h0, .inr (ci, fs))] → va_S A H0 H0 [] → ∀ ls : Array Slot, lv_has ls n [(0, .ref h0)] → W p l e rm s m args below meth c H0 [] 0 0 Q (F0 m 0 ls [])) : Mc l E y cc n rm ci fs cs mc ms Ex h0 sz := by
  refine Met.ofW (cc := cc) (maxL := n) (ret := none) hy rfl ?_
  intro p e s m args below meth c s₁ B hml hv
  obtain ⟨rfl, hsz, hP, hD, hK, hEx⟩ := hv
  subst hsz
  have hl := lv_entry [Value.ref h0] (n := n) hn
  rw [lg_entry_eq]
  have C : Cc E p s m [Value.ref h0].toArray c cc n y.cls (Cond.code y cc n none :: UU) := ⟨⟨B.exec, B.bytes, hml, findClass_of_methodNamed B.named, atoms_spec (ws := Cond.code y cc n none :: UU) B.pre⟩, hK⟩
  have hin : meth.name = y.name := (name_of_methodNamed B.named B.method).1
  refine body p e s m _ below meth c _ s.heap (va_A [(h0, .inr (ci, fs))] s.heap.size) C hEx (hin.trans hyn) (fun q h => Or.inr h) (fun u H locs pc ls hu hP hD hS hdg => ?_) hP hD.self va_S.rf _ hl
  exact W.vret C.1.1 C.1.2.1 B.returns (fun t ht hw => ⟨⟨u, rfl, hu, by rw [ht]; exact hP, hD⟩, hS.F ht⟩) hS.2.2 hdg B.notSynchronized
/-- Object's own -/
def lkO (own : String) (index : Nat) : Prop := Cond.methodLink own index objectInit ∈ UU ∧ Cond.instanceMethod objectInit ∈ UU ∧ Cond.code objectInit ⟨#[0xb1]⟩ 1 none ∈ UU
theorem n_obj {index a : Nat} (C : Cc E p s m args c cc nL own Us) (hUs : ∀ w ∈ UU, w ∈ Us) (hls : ls.size = nL) (hlk : lkO own index) (hfr : 1 ≤ R.frames) (hlo : (rest.map fun v => v.category).sum + 12 ≤ R.locals) (hdg : decode cc pc = .ok (.invokespecial index, 3))
    (kk : W p l e R s m args below meth c H locs cells slots Q (F0 m (pc + 3) ls rest)) : W p l e R s m args below meth c H locs cells slots Q (F0 m pc ls (.ref a :: rest)) :=
  W.objInit C.1.1 C.1.2.1 C.1.2.2.2.1 (C.1.2.2.2.2 _ (hUs _ hlk.1)) (C.1.2.2.2.2 _ (hUs _ hlk.2.1)) (C.1.2.2.2.2 _ (hUs _ hlk.2.2)) rfl (hls.trans C.1.2.2.1.symm) rfl hdg hfr (by show 2 * 0 + _ + 12 ≤ _; omega) kk
theorem n_arr {kn N : Nat} {n : Int32} {atype : ArrayType} {ty : FieldType} {a0 : vp_A} (C : Cc E p s m args c cc nL own Us) (hUs : ∀ w ∈ UU, w ∈ Us) (hw : Cond.arrayClass (newarray.typeOf atype) ∈ UU) (hty : newarray.typeOf atype = ty) (hkn : (tys E)[kn]? = some (E.ar kn, ty)) (hra : ∀ cA, va_RA s cA ty → s.vm.findClass ("[" ++ ty.toString) = some cA) (hP : va_P E.1 cl ws H) (hD : va_D A ws) (hS : va_S A H0 H locs) (hA : ∀ q, H0.size ≤ q → A q)
    (ha : ∀ cA : ClassId, vp_cell cA a0 = arrV cA N (fun _ => defaultValue ty)) (hn : ¬ n < 0) (hN : n.toNatClampNeg = N) (hbytes : N * componentBytes ty ≤ 536870912) (hcells : cells + 1 ≤ R.cells) (hslots : slots + N ≤ R.slots) (hdg : decode cc pc = .ok (.newarray atype, 2))
    (kk : ∀ (q : Nat) (H1 : Heap), va_P E.1 cl (ws ++ [(q, .inl (E.ar kn, a0))]) H1 → va_D A (ws ++ [(q, .inl (E.ar kn, a0))]) → va_S A H0 H1 locs → W p l e R s m args below meth c H1 locs (cells + 1) (slots + N) Q (F0 m (pc + 2) ls (.ref q :: rest))) : W p l e R s m args below meth c H locs cells slots Q (F0 m pc ls (.int n :: rest)) := by
  refine va_newa C.1.1 C.1.2.1 (C.1.2.2.2.2 _ (hUs _ hw)) hty C.2.1 hP hD hS hA ha hn hN hbytes hcells hslots hdg (fun q cA H1 hK1 p1 d1 s1 => ?_)
  have e1 : s.vm.findClass ("[" ++ ty.toString) = some cA := by
    have h := hK1.2 (tys E).length (cA, ty) (by rw [List.getElem?_append_right (Nat.le_refl _), Nat.sub_self]; rfl)
    exact hra _ h.2
  have e2 : s.vm.findClass ("[" ++ ty.toString) = some (E.ar kn) := hra _ (C.2.1.2 kn _ hkn).2
  have e3 : cA = E.ar kn := Option.some.inj (e1.symm.trans e2)
  subst e3
  exact kk q H1 p1 d1 s1
theorem n_arq {kn N index : Nat} {n : Int32} {Cn : String} (C : Cc E p s m args c cc nL own Us) (hUs : ∀ w ∈ UU, w ∈ Us) (hclink : Cond.classLink own index Cn ∈ UU) (hover : va_AO Cn s) (hkn : (tys E)[kn]? = some (E.ar kn, .object Cn)) (hP : va_P E.1 cl ws H) (hD : va_D A ws) (hS : va_S A H0 H locs) (hA : ∀ q, H0.size ≤ q → A q)
    (hn : ¬ n < 0) (hN : n.toNatClampNeg = N) (hbytes : N * 4 ≤ 536870912) (hcells : cells + 1 ≤ R.cells) (hslots : slots + N ≤ R.slots) (hdg : decode cc pc = .ok (.anewarray index, 3))
    (kk : ∀ (q : Nat) (H1 : Heap), va_P E.1 cl (ws ++ [(q, .inl (E.ar kn, N, .inr (.inr (.inr (.inr (fun _ => none))))))]) H1 → va_D A (ws ++ [(q, .inl (E.ar kn, N, .inr (.inr (.inr (.inr (fun _ => none))))))]) → va_S A H0 H1 locs → W p l e R s m args below meth c H1 locs (cells + 1) (slots + N) Q (F0 m (pc + 3) ls (.ref q :: rest))) : W p l e R s m args below meth c H locs cells slots Q (F0 m pc ls (.int n :: rest)) := by
  refine va_newq C.1.1 C.1.2.1 C.1.2.2.2.1 (C.1.2.2.2.2 _ (hUs _ hclink)) hover C.2.1 hP hD hS hA hn hN hbytes hcells hslots hdg (fun q cA H1 hK1 p1 d1 s1 => ?_)
  have e1 : ∀ x, va_RA s x (.object Cn) → s.vm.findClass ("[" ++ (FieldType.object Cn).toString) = some x := fun x h => by
    obtain ⟨kA, comp, -, -, -, h4⟩ := h
    exact h4
  have h1 := e1 cA (hK1.2 (tys E).length (cA, .object Cn) (by rw [List.getElem?_append_right (Nat.le_refl _), Nat.sub_self]; rfl)).2
  have h2 := e1 (E.ar kn) (C.2.1.2 kn _ hkn).2
  have e3 : cA = E.ar kn := Option.some.inj (h1.symm.trans h2)
  subst e3
  exact kk q H1 p1 d1 s1
theorem n_new {index ci : Nat} {q : vw_C} {fs : List Value} (C : Cc E p s m args c cc nL own Us) (hUs : ∀ w ∈ UU, w ∈ Us) (hc : cl[ci]? = some q) (hlk : Cond.classLink own index q.1 ∈ UU ∧ Cond.instantiable q.1 q.2.2 ∈ UU ∧ Cond.initialized q.1 ∈ UU) (hP : va_P E.1 cl ws H) (hD : va_D A ws) (hS : va_S A H0 H locs) (hA : ∀ q, H0.size ≤ q → A q) (hfs : ∀ j, j < q.2.2 → defaultValue (tyOf (q.2.1 j).2.2.1) = vp_V fs j) (hcells : cells + 1 ≤ R.cells) (hslots : slots + q.2.2 ≤ R.slots) (hdg : decode cc pc = .ok (.new index, 3))
    (kk : ∀ (a : Nat) (H1 : Heap), va_P E.1 cl (ws ++ [(a, .inr (ci, fs))]) H1 → va_D A (ws ++ [(a, .inr (ci, fs))]) → va_S A H0 H1 locs → W p l e R s m args below meth c H1 locs (cells + 1) (slots + q.2.2) Q (F0 m (pc + 3) ls (.ref a :: rest))) : W p l e R s m args below meth c H locs cells slots Q (F0 m pc ls rest) :=
  va_new C.1.1 C.1.2.1 (fun w h => C.1.2.2.2.2 w (hUs w h)) (clU ci _ hc) (fun k => tyOf (q.2.1 k).2.2.1) (cl_ty ci q hc) C.1.2.2.2.1 (C.1.2.2.2.2 _ (hUs _ hlk.1)) (C.1.2.2.2.2 _ (hUs _ hlk.2.1)) (C.1.2.2.2.2 _ (hUs _ hlk.2.2)) C.2.1 hP hD hS hA hc hfs hcells hslots hdg kk
theorem n_put {ci index a : Nat} {q : vw_C} {v : Value} {fs : List Value} (C : Cc E p s m args c cc nL own Us) (hUs : ∀ w ∈ UU, w ∈ Us) (hc : cl[ci]? = some q) (hP : va_P E.1 cl ws H) (hD : va_D A ws) (hS : va_S A H0 H locs) (q0 : Nat) (he : ws[q0]? = some (a, .inr (ci, fs))) (k : Nat) (hk : k < q.2.2) (hlink : Cond.fieldLink own index (q.2.1 k).1 (q.2.1 k).2.1 (q.2.1 k).2.2.1 ∈ UU) (hin : meth.name = "<init>") (hdecl : (q.2.1 k).1 = own) (hn : narrow (tyOf (q.2.1 k).2.2.1) v = v) (hfit : fits (tyOf (q.2.1 k).2.2.1) v = true) (hl : k < fs.length) (hdg : decode cc pc = .ok (.putfield index, 3))
    (kk : ∀ (H1 : Heap) (locs1 : List Loc), va_P E.1 cl (ws.set q0 (a, .inr (ci, fs.set k v))) H1 → va_D A (ws.set q0 (a, .inr (ci, fs.set k v))) → va_S A H0 H1 locs1 → W p l e R s m args below meth c H1 locs1 cells slots Q (F0 m (pc + 3) ls rest)) : W p l e R s m args below meth c H locs cells slots Q (F0 m pc ls (v :: .ref a :: rest)) := by
  cases hfin : (q.2.1 k).2.2.2 with
  | false => exact va_put C.1.1 C.1.2.1 (fun w h => C.1.2.2.2.2 w (hUs w h)) (clU ci _ hc) (fun k => tyOf (q.2.1 k).2.2.1) (cl_ty ci q hc) (cl_nm ci q hc) C.1.2.2.2.1 C.2.1 hP hD hS q0 he hc k hk (C.1.2.2.2.2 _ (hUs _ hlink)) (fun _ h => h) hfin (cl_ty ci q hc k hk) hn hfit hl hdg kk
  | true => exact va_putF C.1.1 C.1.2.1 (fun w h => C.1.2.2.2.2 w (hUs w h)) (clU ci _ hc) (fun k => tyOf (q.2.1 k).2.2.1) (cl_ty ci q hc) (cl_nm ci q hc) C.1.2.2.2.1 C.2.1 hP hD hS q0 he hc k hk (C.1.2.2.2.2 _ (hUs _ hlink)) (fun _ h => h) hfin hin hdecl (cl_ty ci q hc k hk) hn hfit hl hdg kk
theorem n_get {ci index a : Nat} {q : vw_C} {v : Value} {fs : List Value} (C : Cc E p s m args c cc nL own Us) (hUs : ∀ w ∈ UU, w ∈ Us) (hc : cl[ci]? = some q) (hP : va_P E.1 cl ws H) (q0 : Nat) (he : ws[q0]? = some (a, .inr (ci, fs))) (k : Nat) (hk : k < q.2.2) (hlink : Cond.fieldLink own index (q.2.1 k).1 (q.2.1 k).2.1 (q.2.1 k).2.2.1 ∈ UU) (hv : fs[k]? = some v) (hdg : decode cc pc = .ok (.getfield index, 3))
    (kk : W p l e R s m args below meth c H locs cells slots Q (F0 m (pc + 3) ls (v :: rest))) : W p l e R s m args below meth c H locs cells slots Q (F0 m pc ls (.ref a :: rest)) :=
  va_get C.1.1 C.1.2.1 (fun w h => C.1.2.2.2.2 w (hUs w h)) (clU ci _ hc) C.1.2.2.2.1 C.2.1 hP q0 he hc k hk (C.1.2.2.2.2 _ (hUs _ hlink)) (fun _ h => h) hv hdg kk
/-- the call of a nested class's constructor, on the world's last cell -/
def lkN (own : String) (index : Nat) (y : MethodName) (bytes : ByteArray) : Prop := (Cond.methodLinkNest own index y RX10 ∈ nestW ∧ Cond.initialized y.cls ∈ UU ∧ Cond.instanceMethod y ∈ UU ∧ Cond.code y bytes 1 none ∈ UU) ∧ y.name = "<init>" ∧ (y.cls ≠ "java/lang/invoke/MethodHandle" ∧ y.cls ≠ "java/lang/invoke/VarHandle" ∧ (parseMethodDescriptor y.desc).map (fun d => d.parameters.length) = some 0)
theorem gNU {big : List Cond} {n : Nat} {y : MethodName} {cc : ByteArray} {ret : Option FieldType} (hb : ∀ w ∈ UU, w ∈ big) (h5 : Cond.code y cc n ret ∈ UU) : GoodIn big (Cond.code y cc n ret :: UU) := by
  intro w hw
  have key : w ∈ UU := by
    rcases List.mem_cons.mp hw with rfl | h
    · exact h5
    · exact h
  exact ⟨hb w key, UU_good w key⟩
theorem n_join {wc w1 : va_W} {x : Nat × va_E} {H1 : Heap} (hP : va_P E.1 cl (ws ++ [x]) H) (hD : va_D A (ws ++ [x])) (hk : ∀ q : Nat, q < H.size → ¬ va_A [x] H.size q → H1[q]? = H[q]?) (hF : ∀ q, va_A [x] H.size q → A q) (hP1 : va_P E.1 cl w1 H1) (hD1 : va_D (va_A [x] H.size) w1) : va_P E.1 cl (ws ++ w1) H1 ∧ va_D A (ws ++ w1) := by
  refine va_join (wr := ws) hP hD [ws.length] (List.range ws.length) ?_ (range_at ws [x]) (nd_range _) ?_ hk hF hP1 hD1
  · show [(ws ++ [x])[ws.length]?] = [some x]
    rw [List.getElem?_append_right (Nat.le_refl _), Nat.sub_self]
    rfl
  · intro i hi h
    have h1 := List.mem_range.mp hi
    have h2 := List.mem_singleton.mp h
    omega
theorem n_ctor {y : MethodName} {bytes : ByteArray} {index ci a mc ms : Nat} {fs : List Value} {rm : Room} {cs : (Nat → Nat) → va_W} (C : Cc E p s m args c cc nL own Us) (hUs : ∀ w ∈ UU, w ∈ Us) (hls : ls.size = nL) (hM : ∀ sz, Mc l E y bytes 1 rm ci fs cs mc ms (fun _ => True) a sz) (hlk : lkN own index y bytes) (hP : va_P E.1 cl (ws ++ [(a, .inr (ci, fs))]) H) (hD : va_D A (ws ++ [(a, .inr (ci, fs))])) (hS : va_S A H0 H locs) (hA : ∀ q, H0.size ≤ q → A q) (hrm : rm.cells = mc ∧ rm.slots = ms) (hR : rm.frames + 1 ≤ R.frames ∧ 8 + (1 + 11) + rm.locals ≤ R.locals) (hf : cells + mc ≤ R.cells ∧ slots + ms ≤ R.slots) (hroom : (rest.map fun v => v.category).sum ≤ 8) (hdg : decode cc pc = .ok (.invokespecial index, 3))
    (kk : ∀ (u : Nat → Nat) (H1 : Heap) (locs1 : List Loc), u 0 = a → va_P E.1 cl (ws ++ cs u) H1 → va_D A (ws ++ cs u) → va_S A H0 H1 locs1 → W p l e R s m args below meth c H1 locs1 (cells + mc) (slots + ms) Q (F0 m (pc + 3) ls rest)) : W p l e R s m args below meth c H locs cells slots Q (F0 m pc ls (.ref a :: rest)) := by
  obtain ⟨⟨n1, n2, n3, n4⟩, hy1, hd⟩ := hlk
  have hlast : (ws ++ [((a, .inr (ci, fs)) : Nat × va_E)])[ws.length]? = some (a, .inr (ci, fs)) := by rw [List.getElem?_append_right (Nat.le_refl _), Nat.sub_self]; rfl
  have hPc : va_P E.1 cl [(a, .inr (ci, fs))] H := fun k q hk => by
    have hk0 : k = 0 := by
      have := (List.getElem?_eq_some_iff.mp hk).1
      simp at this
      exact this
    subst hk0
    cases hk
    exact hP _ _ hlast
  have hDc : va_D (fun _ => True) [((a, .inr (ci, fs)) : Nat × va_E)] := ⟨fun i j x y hi hj _ => by
    have h1 := (List.getElem?_eq_some_iff.mp hi).1
    have h2 := (List.getElem?_eq_some_iff.mp hj).1
    simp at h1 h2
    omega, fun _ _ _ => trivial⟩
  have hFc : ∀ q, va_A [(a, .inr (ci, fs))] H.size q → A q := fun q h => by
    rcases h with ⟨k, x, h⟩ | h
    · have hk0 : k = 0 := by
        have := (List.getElem?_eq_some_iff.mp h).1
        simp at this
        exact this
      subst hk0
      cases h
      exact hD.2 _ _ hlast
    · exact hA q (Nat.le_trans hS.1 h)
  refine va_callv (va_runIN (As := []) (rest := rest) C.1 (hM H.size) ⟨va_cnB 0 C.1.2.2.2.2 (gNU hUs n4) rfl hrm.1 hrm.2 (C.2.2 _ n1) (C.1.2.2.2.2 _ (hUs _ n2)) hd hR, hy1, C.1.2.2.2.2 _ (hUs _ n3)⟩ ⟨fun v U g mk h => ?_, fun U hU hw => ⟨rfl, by rw [hU], by rw [hU]; exact hPc, hDc, Kx_warm hw C.2, trivial⟩⟩ rfl rfl hls rfl (lv_room hroom) hdg hf) hS (fun q _ h => hFc q h) hFc (fun u t H1 locs1 ht hvm hw hB hz1 hk1 hS1 => ?_)
  · obtain ⟨g0, g1, g2, g3, g4, -⟩ := h
    exact ⟨g0, g1, g2, g3, Kx_vm (s := U) rfl g4, trivial⟩
  · obtain ⟨q1, q2⟩ := hB
    rw [ht] at q1
    obtain ⟨j1, j2⟩ := n_join (wc := []) hP hD hk1 hFc q1 q2
    exact kk u H1 locs1 hw j1 j2 hS1
def lkL (own : String) (index : Nat) (y : MethodName) (bytes : ByteArray) (n : Nat) : Prop := (Cond.methodLink own index y ∈ UU ∧ Cond.initialized y.cls ∈ UU ∧ Cond.instanceMethod y ∈ UU ∧ Cond.code y bytes n none ∈ UU) ∧ y.name = "<init>" ∧ (y.cls ≠ "java/lang/invoke/MethodHandle" ∧ y.cls ≠ "java/lang/invoke/VarHandle" ∧ (parseMethodDescriptor y.desc).map (fun d => d.parameters.length) = some 0)
theorem n_ctorL {y : MethodName} {bytes : ByteArray} {index ci a mc ms : Nat} {fs : List Value} {rm : Room} {cs : (Nat → Nat) → va_W} {Ex : State → Prop} {nP : Nat} (C : Cc E p s m args c cc nL own Us) (hUs : ∀ w ∈ UU, w ∈ Us) (hls : ls.size = nL) (hM : ∀ sz, Mc l E y bytes nP rm ci fs cs mc ms Ex a sz) (hlk : lkL own index y bytes nP) (hEx : ∀ U : State, s.WarmedH U.vm → Ex U) (hEv : ∀ U V : State, U.vm = V.vm → Ex U → Ex V) (hP : va_P E.1 cl (ws ++ [(a, .inr (ci, fs))]) H) (hD : va_D A (ws ++ [(a, .inr (ci, fs))])) (hS : va_S A H0 H locs) (hA : ∀ q, H0.size ≤ q → A q) (hrm : rm.cells = mc ∧ rm.slots = ms) (hR : rm.frames + 1 ≤ R.frames ∧ 8 + (nP + 11) + rm.locals ≤ R.locals) (hf : cells + mc ≤ R.cells ∧ slots + ms ≤ R.slots) (hroom : (rest.map fun v => v.category).sum ≤ 8) (hdg : decode cc pc = .ok (.invokespecial index, 3))
    (kk : ∀ (u : Nat → Nat) (H1 : Heap) (locs1 : List Loc), u 0 = a → va_P E.1 cl (ws ++ cs u) H1 → va_D A (ws ++ cs u) → va_S A H0 H1 locs1 → W p l e R s m args below meth c H1 locs1 (cells + mc) (slots + ms) Q (F0 m (pc + 3) ls rest)) : W p l e R s m args below meth c H locs cells slots Q (F0 m pc ls (.ref a :: rest)) := by
  obtain ⟨⟨n1, n2, n3, n4⟩, hy1, hd⟩ := hlk
  have hlast : (ws ++ [((a, .inr (ci, fs)) : Nat × va_E)])[ws.length]? = some (a, .inr (ci, fs)) := by rw [List.getElem?_append_right (Nat.le_refl _), Nat.sub_self]; rfl
  have hPc : va_P E.1 cl [(a, .inr (ci, fs))] H := fun k q hk => by
    have hk0 : k = 0 := by
      have := (List.getElem?_eq_some_iff.mp hk).1
      simp at this
      exact this
    subst hk0
    cases hk
    exact hP _ _ hlast
  have hDc : va_D (fun _ => True) [((a, .inr (ci, fs)) : Nat × va_E)] := ⟨fun i j x y hi hj _ => by
    have h1 := (List.getElem?_eq_some_iff.mp hi).1
    have h2 := (List.getElem?_eq_some_iff.mp hj).1
    simp at h1 h2
    omega, fun _ _ _ => trivial⟩
  have hFc : ∀ q, va_A [(a, .inr (ci, fs))] H.size q → A q := fun q h => by
    rcases h with ⟨k, x, h⟩ | h
    · have hk0 : k = 0 := by
        have := (List.getElem?_eq_some_iff.mp h).1
        simp at this
        exact this
      subst hk0
      cases h
      exact hD.2 _ _ hlast
    · exact hA q (Nat.le_trans hS.1 h)
  refine va_callv (va_runI (As := []) (rest := rest) C.1 (hM H.size) (cwI 0 C.1.2.2.2.2 (gNU hUs n4) rfl hrm.1 hrm.2 (C.1.2.2.2.2 _ (hUs _ n2)) (C.1.2.2.2.2 _ (hUs _ n1)) (C.1.2.2.2.2 _ (hUs _ n3)) hy1 hd hR) ⟨fun v U g mk h => ?_, fun U hU hw => ⟨rfl, by rw [hU], by rw [hU]; exact hPc, hDc, Kx_warm hw C.2, hEx U hw⟩⟩ rfl rfl hls rfl (lv_room hroom) hdg hf) hS (fun q _ h => hFc q h) hFc (fun u t H1 locs1 ht hvm hw hB hz1 hk1 hS1 => ?_)
  · obtain ⟨g0, g1, g2, g3, g4, g5⟩ := h
    exact ⟨g0, g1, g2, g3, Kx_vm (s := U) rfl g4, hEv U _ rfl g5⟩
  · obtain ⟨q1, q2⟩ := hB
    rw [ht] at q1
    obtain ⟨j1, j2⟩ := n_join (wc := []) hP hD hk1 hFc q1 q2
    exact kk u H1 locs1 hw j1 j2 hS1
end CTOR
