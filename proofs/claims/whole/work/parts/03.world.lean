/-! THE STATE, AND THE WORLD: every cell has a number (id); ints, longs and movable references of all cells in three memories -/
abbrev St : Type := (Nat → Nat → Int32) × (Nat → Nat → Int64) × (Nat → Nat → Nat)
def rI (S : St) (a k : Nat) : Int32 := S.1 a k
def rJ (S : St) (a k : Nat) : Int64 := S.2.1 a k
def rR (S : St) (a k : Nat) : Nat := S.2.2 a k
def wI (S : St) (a k : Nat) (v : Int32) : St := (fun x j => if x = a ∧ j = k then v else S.1 x j, S.2)
def wJ (S : St) (a k : Nat) (v : Int64) : St := (S.1, fun x j => if x = a ∧ j = k then v else S.2.1 x j, S.2.2)
def wR (S : St) (a k : Nat) (v : Nat) : St := (S.1, S.2.1, fun x j => if x = a ∧ j = k then v else S.2.2 x j)
/-- a stretch of ints copied between two cells -/
def cI (S : St) (a0 sp a1 dp n : Nat) : St := (fun x j => if x = a1 then va_cpy (S.1 a0) (S.1 a1) sp dp n j else S.1 x j, S.2)
def cJ (S : St) (a0 sp a1 dp n : Nat) : St := (S.1, fun x j => if x = a1 then va_cpy (S.2.1 a0) (S.2.1 a1) sp dp n j else S.2.1 x j, S.2.2)
/-- a stretch of a fixed row copied into a cell -/
def cF (S : St) (f : Nat → Int32) (sp a1 dp n : Nat) : St := (fun x j => if x = a1 then va_cpy f (S.1 a1) sp dp n j else S.1 x j, S.2)
def fI (S : St) (a : Nat) (v : Int32) : St := (fun x j => if x = a then v else S.1 x j, S.2)
/-- kinds: (0, class), (1, n) ints, (2, n) longs, (3, n) bytes, (4, n) booleans, (5, n) images, (6, n) sheets -/
def kd (id : Nat) : Nat × Nat :=
  [(0, 10), (0, 1), (0, 6), (1, 48), (1, 64), (1, 56), (0, 5), (1, 64), (0, 3), (2, 8), (5, 2), (0, 8), (0, 5), (1, 64), (3, 120), (6, 4),
   (0, 7), (1, 40), (0, 7), (1, 40), (0, 7), (1, 40), (0, 7), (1, 40), (0, 0), (1, 8), (1, 8), (1, 64), (1, 8), (1, 8), (0, 2), (1, 8), (0, 9), (1, 8), (1, 8), (0, 4),
   (1, 6), (1, 6), (1, 6), (1, 6), (1, 6), (1, 36),
   (0, 1), (0, 6), (1, 48), (1, 64), (1, 56), (0, 5), (1, 64), (0, 3), (2, 8), (0, 1), (0, 6), (1, 48), (1, 64), (1, 56), (0, 5), (1, 64), (0, 3), (2, 8),
   (0, 11), (1, 648), (2, 8), (1, 328), (1, 8), (1, 120), (1, 64), (1, 8), (1, 8), (1, 6), (1, 4), (1, 6), (1, 10), (1, 36), (1, 1296), (2, 16), (4, 2), (1, 4), (1, 4), (1, 160), (1, 40)].getD id (9, 0)
def kk_ (id : Nat) : Nat := (kd id).1
def kl (id : Nat) : Nat := (kd id).2
/-- cells that are there from the start on -/
def sid : List Nat := List.range' 0 42 ++ List.range' 60 21
def ids (S : St) : List Nat := sid ++ ((if rR S 10 0 = 0 then [] else List.range' 42 9) ++ (if rR S 10 1 = 0 then [] else List.range' 51 9))
/-- the kind of a field: 0 an int, 1 a final reference, 2 one that moves -/
def fk (ci k : Nat) : Nat := (([[2, 2, 1, 1, 1], [1, 1, 1, 0], [1], [0, 1], [0, 1, 1, 1, 1, 1, 1], [0, 1], [0, 0, 0, 1, 1, 1], [0, 0, 1], [0, 1, 1, 0], [2, 2], [1, 1, 1, 1, 1, 1, 1, 1], [1, 1, 1, 1, 1, 0, 0, 1, 1, 1, 1, 1, 1, 1, 1, 1, 1, 1, 1, 1, 1, 1]] : List (List Nat)).getD ci []).getD k 9
def nfl (ci : Nat) : Nat := ([5, 4, 1, 2, 7, 2, 6, 3, 4, 2, 8, 22] : List Nat).getD ci 0
/-- where a final reference leads: so many cells on -/
def off (ci k : Nat) : Nat := (([[0, 0, 3, 4, 5], [1, 5, 7, 0], [1], [0, 1], [0, 1, 2, 3, 4, 5, 6], [0, 1], [0, 0, 0, 1, 2, 3], [0, 0, 1], [0, 1, 3, 0], [0, 0], [1, 10, 11, 15, 24, 30, 32, 35], [1, 2, 3, 4, 5, 0, 0, 6, 7, 8, 9, 10, 11, 12, 13, 14, 15, 16, 17, 18, 19, 20]] : List (List Nat)).getD ci []).getD k 0
abbrev cl : List vw_C := [(RX0, TX0, 5), (RX1, TX1, 4), (RX2, TX2, 1), (RX3, TX3, 2), (RX4, TX4, 7), (RX5, TX5, 2), (RX6, TX6, 6), (RX7, TX7, 3), (RX8, TX8, 4), (RX9, TX9, 2), (RX10, TX10, 8), (RX11, TX11, 22)]
/-- classes and slots, classes of arrays by kind, addresses, where the world begins, the two tables -/
abbrev En : Type := va_G × (Nat → ClassId) × (Nat → Nat) × Nat × Nat × Nat
abbrev En.ad (E : En) : Nat → Nat := E.2.2.1
abbrev En.ar (E : En) : Nat → ClassId := E.2.1
abbrev Ab (E : En) : Nat → Prop := fun q => E.2.2.2.1 ≤ q
def fv (E : En) (S : St) (id ci k : Nat) : Value := if fk ci k = 0 then .int (rI S id k) else if fk ci k = 1 then .ref (E.ad (id + off ci k)) else .ref (E.ad (rR S id k))
def cellOf (E : En) (S : St) (id : Nat) : va_E :=
  if kk_ id = 0 then .inr (kl id, (List.range (nfl (kl id))).map (fv E S id (kl id)))
  else if kk_ id = 2 then .inl (E.ar 2, kl id, .inr (.inl (rJ S id)))
  else if kk_ id = 5 then .inl (E.ar 5, kl id, .inr (.inr (.inr (.inr (fun k => if rR S id k = 0 then none else some (E.ad (rR S id k)))))))
  else if kk_ id = 6 then .inl (E.ar 6, kl id, .inr (.inr (.inr (.inr (fun k => some (E.ad (16 + 2 * k)))))))
  else .inl (E.ar (kk_ id), kl id, .inl (rI S id))
def wsOf (E : En) (S : St) : va_W := (ids S).map (fun id => (E.ad id, cellOf E S id))
def tys (E : En) : List (ClassId × FieldType) := [(E.ar 0, .int), (E.ar 1, .int), (E.ar 2, .long), (E.ar 3, .byte), (E.ar 4, .boolean), (E.ar 5, .object RX1), (E.ar 6, .object RX7)]
def FIRSTV (k : Nat) : Int32 := ([0, 10, 50, 0, 0, 0] : List Int32).getD k 0
def MOSTV (k : Nat) : Int32 := ([5, 99, 100, 999, 400, 63] : List Int32).getD k 0
/-- the two tables of the class -/
def Tb (E : En) (U : State) (H : Heap) : Prop :=
  (va_Z RX10 "FIRST_VALUES" "[I" (.ref E.2.2.2.2.1) (Ab E) U H ∧ va_X E.2.2.2.2.1 6 FIRSTV U H ∧ E.2.2.2.2.1 < E.2.2.2.1) ∧
  (va_Z RX10 "MOST_VALUES" "[I" (.ref E.2.2.2.2.2) (Ab E) U H ∧ va_X E.2.2.2.2.2 6 MOSTV U H ∧ E.2.2.2.2.2 < E.2.2.2.1)
/-- the words on private members across a nest -/
def isNest : Cond → Bool
  | .fieldLinkNest .. => true
  | .methodLinkNest .. => true
  | _ => false
def nestW : List Cond := lw_tbl.filter isNest
def Nn (U : State) : Prop := ∀ w ∈ nestW, va_Nw w U
theorem Nn_warm {s U : State} (hW : s.WarmedH U.vm) (h : Nn s) : Nn U := by
  intro w hw
  have h1 := h w hw
  have h2 := (List.mem_filter.mp hw).2
  cases w with
  | fieldLinkNest a i b n d h => exact va_Nw.warmF hW h1
  | methodLinkNest a i x h => exact va_Nw.warmM hW h1
  | _ => cases h2
theorem Nn_vm {s U : State} (hvm : s.vm = U.vm) (h : Nn s) : Nn U := by
  intro w hw
  have h1 := h w hw
  have h2 := (List.mem_filter.mp hw).2
  cases w with
  | fieldLinkNest a i b n d h => exact va_tabs rfl hvm h1
  | methodLinkNest a i x h => exact va_tabs rfl hvm h1
  | _ => cases h2
theorem nest_in {w : Cond} (h : (decide (w ∈ lw_tbl) && isNest w) = true) : w ∈ nestW := by
  simp only [Bool.and_eq_true, decide_eq_true_eq] at h
  exact List.mem_filter.mpr h
/-- the whole world at a state -/
def Pw (E : En) (S : St) (U : State) : Prop := va_P E.1 cl (wsOf E S) U.heap ∧ va_D (Ab E) (wsOf E S) ∧ va_K E.1 cl (tys E) U ∧ Tb E U U.heap ∧ Nn U
/-- the same in the midst of a method -/
def Ww (E : En) (S : St) (s : State) (H : Heap) (locs : List Loc) : Prop := va_P E.1 cl (wsOf E S) H ∧ va_D (Ab E) (wsOf E S) ∧ va_S (Ab E) s.heap H locs
/-- what does not change within a method -/
def Cx (E : En) (p : Program) (s : State) (m : MethodId) (args : Array Value) (c : Code) (cc : ByteArray) (nL : Nat) (own : String) (U : List Cond) : Prop :=
  CallFix p m c cc nL s args U own ∧ va_K E.1 cl (tys E) s ∧ Tb E s s.heap ∧ Nn s
/-! the words that all methods share -/
def UU : List Cond := lw_tbl.filter goodWord
theorem UU_good : ∀ w ∈ UU, (w.onTables && w.keeps) = true ∨ ∃ ty, w = .arrayClass ty := fun w h => good_of_word (List.mem_filter.mp h).2
theorem UU_in : ∀ w ∈ UU, w ∈ lw_tbl := fun w h => (List.mem_filter.mp h).1
theorem inUU {w : Cond} (h : (decide (w ∈ lw_tbl) && goodWord w) = true) : w ∈ UU := by
  simp only [Bool.and_eq_true, decide_eq_true_eq] at h
  exact List.mem_filter.mpr h
theorem gUV {big : List Cond} {own C : String} {idx n : Nat} {y : MethodName} {cc : ByteArray} {ret : Option FieldType} (hb : ∀ w ∈ UU, w ∈ big) (h1 : Cond.methodLink own idx y ∈ UU) (h2 : Cond.instanceMethod y ∈ UU) (h3 : Cond.selects C y y ∈ UU) (h4 : Cond.initialized C ∈ UU) (h5 : Cond.code y cc n ret ∈ UU) : GoodIn big (wsV own idx C y (Cond.code y cc n ret :: UU)) := by
  intro w hw
  have key : w ∈ UU := by
    simp only [wsV, List.mem_append, List.mem_cons, List.not_mem_nil, or_false] at hw
    rcases hw with (rfl | rfl | rfl | rfl) | rfl | h
    · exact h1
    · exact h2
    · exact h3
    · exact h4
    · exact h5
    · exact h
  exact ⟨hb w key, UU_good w key⟩
theorem gUS {big : List Cond} {own : String} {idx n : Nat} {y : MethodName} {cc : ByteArray} {ret : Option FieldType} (hb : ∀ w ∈ UU, w ∈ big) (h1 : Cond.methodLink own idx y ∈ UU) (h2 : Cond.static y ∈ UU) (h4 : Cond.initialized y.cls ∈ UU) (h5 : Cond.code y cc n ret ∈ UU) : GoodIn big (va_wsS own idx y (Cond.code y cc n ret :: UU)) := by
  intro w hw
  have key : w ∈ UU := by
    simp only [va_wsS, List.mem_append, List.mem_cons, List.not_mem_nil, or_false] at hw
    rcases hw with (rfl | rfl | rfl) | rfl | h
    · exact h1
    · exact h2
    · exact h4
    · exact h5
    · exact h
  exact ⟨hb w key, UU_good w key⟩
set_option maxRecDepth 100000 in
theorem clU : ∀ (ci : Nat) (q : vw_C), cl[ci]? = some q → ∀ w ∈ u_ws q.1 q.2.1 q.2.2, w ∈ UU := by
  have key : cl.all (fun q => (u_ws q.1 q.2.1 q.2.2).all (fun w => decide (w ∈ lw_tbl) && goodWord w)) = true := by decide +kernel
  intro ci q hq w hw
  have h1 := List.all_eq_true.mp key q (List.mem_of_getElem? hq)
  exact inUU (List.all_eq_true.mp h1 w hw)
theorem cl_nfl {ci : Nat} {q : vw_C} (h : cl[ci]? = some q) : q.2.2 = nfl ci := by
  have key : ∀ i, i < 12 → (cl[i]?.map fun q => q.2.2) = some (nfl i) := by decide
  have hl : ci < 12 := (List.getElem?_eq_some_iff.mp h).1
  have := key ci hl
  rw [h] at this
  exact Option.some.inj this
def tyOf (d : String) : FieldType := (parseFieldDescriptor d).getD .int
theorem cl_ty : ∀ (ci : Nat) (q : vw_C), cl[ci]? = some q → ∀ k, k < q.2.2 → parseFieldDescriptor (q.2.1 k).2.2.1 = some (tyOf (q.2.1 k).2.2.1) := by
  have key : cl.all (fun q => (List.range q.2.2).all (fun k => (parseFieldDescriptor (q.2.1 k).2.2.1).isSome)) = true := by decide +kernel
  intro ci q hq k hk
  have h1 := List.all_eq_true.mp (List.all_eq_true.mp key q (List.mem_of_getElem? hq)) k (List.mem_range.mpr hk)
  obtain ⟨t, ht⟩ := Option.isSome_iff_exists.mp h1
  rw [tyOf, ht]
  rfl
theorem cl_nm : ∀ (ci : Nat) (q : vw_C), cl[ci]? = some q → ∀ a, a < q.2.2 → ∀ b, b < q.2.2 → a ≠ b → (q.2.1 a).2.1 ≠ (q.2.1 b).2.1 := by
  have key : cl.all (fun q => (List.range q.2.2).all (fun a => (List.range q.2.2).all (fun b => decide (a = b) || decide ((q.2.1 a).2.1 ≠ (q.2.1 b).2.1)))) = true := by decide +kernel
  intro ci q hq a ha b hb hne
  have h1 := List.all_eq_true.mp (List.all_eq_true.mp (List.all_eq_true.mp key q (List.mem_of_getElem? hq)) a (List.mem_range.mpr ha)) b (List.mem_range.mpr hb)
  simp only [Bool.or_eq_true, decide_eq_true_eq] at h1
  exact h1.resolve_left hne
