/-! the small readers, and the first calls -/
theorem tI64 (x : Int32) : x.toInt64.toInt = x.toInt := Int32.toInt_toInt64 x
section RD
variable {S : St} {A : Ch}
theorem has_ok (hx : HX S 1 A) (hn : A.n ≤ 8) (a : Int32) : X6_has S a = some (if 0 ≤ a.toInt ∧ a.toInt < A.n then 1 else 0) := by
  have e : rI S 2 0 = nI A.n := hx.1.1
  unfold X6_has
  rw [e]
  by_cases h1 : a < 0
  · have := (i_lt a 0 0).mp h1
    rw [if_pos h1, if_neg (by omega)]
  · have h1' : ¬ a.toInt < 0 := fun z => h1 ((i_lt a 0 0).mpr z)
    rw [if_neg h1]
    by_cases h2 : nI A.n ≤ a
    · have := (i_ge a (nI A.n) A.n (nT (by omega))).mp h2
      rw [if_pos h2, if_neg (by omega)]
    · have h2' : ¬ (A.n : Int) ≤ a.toInt := fun z => h2 ((i_ge a (nI A.n) A.n (nT (by omega))).mpr z)
      rw [if_neg h2, if_pos (by omega)]
theorem rooms_ok (hm : HM S 61 0 62 0 A) : X11_rooms S = some (nI A.n) := by
  unfold X11_rooms
  exact (bd (ldA_s S 61 0 rfl rfl (by decide))).trans (congrArg some hm.1.1)
theorem isRoom_ok (hm : HM S 61 0 62 0 A) (hn : A.n ≤ 8) (a : Int32) : X11_isRoom S a = some (if 0 ≤ a.toInt ∧ a.toInt < A.n then 1 else 0) := by
  unfold X11_isRoom
  refine (bd ((ldA_s S 61 0 rfl rfl (by decide)).trans (congrArg some hm.1.1))).trans ?_
  show (X11_in S a.toInt64 0 ((nI A.n - 1).toInt64)).bind (fun x4 => some x4) = _
  have e : ((nI A.n - 1).toInt64).toInt = (A.n : Int) - 1 := by
    rw [tI64]
    exact pk_sub_toInt (a := A.n) (b := 1) (by omega) (by omega)
  rw [in32 S a 0 ((nI A.n - 1).toInt64) 0 (A.n - 1) (by decide) e]
  show some _ = some _
  by_cases h : 0 ≤ a.toInt ∧ a.toInt < A.n
  · rw [if_pos h, if_pos (by omega)]
  · rw [if_neg h, if_neg (by omega)]
theorem value_ok {r w : Nat} (hr : r < 8) (hw : w < 6) : X6_value S (nI r) (nI w) = some (rI S 3 (6 * r + w)) := by
  unfold X6_value
  exact bd (ldA_s S 3 (6 * r + w) rfl (ix2 6 r w) (by show _ < 48; omega))
theorem of_ok {r w : Nat} (hr : r < 8) (hw : w < 6) : X11_of S (nI r) (nI w) = some (rI S 61 (8 + 6 * r + w)) := by
  unfold X11_of
  exact bd (ldA_s S 61 (8 + 6 * r + w) rfl (ix3 8 6 r w) (by show _ < 648; omega))
theorem between_ok {f t : Nat} (hf : f < 8) (ht : t < 8) : X6_between S (nI f) (nI t) = some (rI S 4 (8 * f + t)) := by
  unfold X6_between
  exact bd (ldA_s S 4 (8 * f + t) rfl (ix2 8 f t) (by show _ < 64; omega))
theorem wireOf_ok {f t : Nat} (hf : f < 8) (ht : t < 8) : X11_wireOf S (nI f) (nI t) = some (rI S 61 (64 + 8 * f + t)) := by
  unfold X11_wireOf
  exact bd (ldA_s S 61 (64 + 8 * f + t) rfl (ix3 64 8 f t) (by show _ < 648; omega))
theorem sings_ok (hx : HX S 1 A) (hw : Wf A) {r : Nat} (hr : r < A.n) : X6_sings S (nI r) = some (if A.val r 0 < 4 then 1 else 0) := by
  unfold X6_sings
  have hv := hx.2.1 r 0 hr (by omega)
  have hb := hw.2.1 r 0 hr (by omega)
  have hb : A.val r 0 ≤ 5 := hb
  have hn := hw.1
  refine (bd ((value_ok (w := 0) (by omega) (by omega)).trans (congrArg some hv))).trans ?_
  show (if 4 ≤ nI (A.val r 0) then some 0 else some 1) = _
  by_cases h : A.val r 0 < 4
  · rw [if_pos h, if_neg (fun z => by have := (i_ge (nI (A.val r 0)) 4 4).mp z; rw [nT (by omega)] at this; omega)]
  · rw [if_neg h, if_pos ((i_ge (nI (A.val r 0)) 4 4).mpr (by rw [nT (by omega)]; omega))]
theorem msings_ok (hm : HM S 61 0 62 0 A) (hw : Wf A) {r : Nat} (hr : r < A.n) : X11_sings S (nI r) = some (if A.val r 0 < 4 then 1 else 0) := by
  unfold X11_sings
  have hv := hm.2.1 r 0 hr (by omega)
  have hb := hw.2.1 r 0 hr (by omega)
  have hb : A.val r 0 ≤ 5 := hb
  have hn := hw.1
  rw [show 0 + 8 + 6 * r + 0 = 8 + 6 * r + 0 by omega] at hv
  refine (bd ((of_ok (w := 0) (by omega) (by omega)).trans (congrArg some hv))).trans ?_
  show (if 4 ≤ nI (A.val r 0) then some 0 else some 1) = _
  by_cases h : A.val r 0 < 4
  · rw [if_pos h, if_neg (fun z => by have := (i_ge (nI (A.val r 0)) 4 4).mp z; rw [nT (by omega)] at this; omega)]
  · rw [if_neg h, if_pos ((i_ge (nI (A.val r 0)) 4 4).mpr (by rw [nT (by omega)]; omega))]
theorem isCut_ok (hx : HX S 1 A) (hw : Wf A) {r : Nat} (hr : r < A.n) : X6_isCut S (nI r) = some (if A.val r 0 = 5 then 1 else 0) := by
  unfold X6_isCut
  have hv := hx.2.1 r 0 hr (by omega)
  have hb : A.val r 0 ≤ 5 := hw.2.1 r 0 hr (by omega)
  have hn := hw.1
  refine (bd ((value_ok (w := 0) (by omega) (by omega)).trans (congrArg some hv))).trans ?_
  show (if nI (A.val r 0) = 5 then some 1 else some 0) = _
  by_cases h : A.val r 0 = 5
  · rw [if_pos h, h]
    rfl
  · rw [if_neg h]
    exact if_neg (fun z => h ((nI_eq (by omega) (by omega)).mp (z : nI (A.val r 0) = nI 5)))
theorem misCut_ok (hm : HM S 61 0 62 0 A) (hw : Wf A) {r : Nat} (hr : r < A.n) : X11_isCut S (nI r) = some (if A.val r 0 = 5 then 1 else 0) := by
  unfold X11_isCut
  have hv := hm.2.1 r 0 hr (by omega)
  have hb : A.val r 0 ≤ 5 := hw.2.1 r 0 hr (by omega)
  have hn := hw.1
  rw [show 0 + 8 + 6 * r + 0 = 8 + 6 * r + 0 by omega] at hv
  refine (bd ((of_ok (w := 0) (by omega) (by omega)).trans (congrArg some hv))).trans ?_
  show (if nI (A.val r 0) = 5 then some 1 else some 0) = _
  by_cases h : A.val r 0 = 5
  · rw [if_pos h, h]
    rfl
  · rw [if_neg h]
    exact if_neg (fun z => h ((nI_eq (by omega) (by omega)).mp (z : nI (A.val r 0) = nI 5)))
end RD
