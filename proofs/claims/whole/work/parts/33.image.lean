/-! the call image: E's addresses grow -/
abbrev Ea (E : En) (ad : Nat → Nat) : En := (E.1, E.2.1, ad, E.2.2.2)
theorem P_all {D : va_G} {ws : va_W} {H : Heap} (h : va_P D cl ws H) : ∀ q ∈ ws, va_at D cl q H := fun q hq => by
  obtain ⟨k, hk⟩ := List.getElem?_of_mem hq
  exact h k q hk
theorem P_of {D : va_G} {ws : va_W} {H : Heap} (h : ∀ q ∈ ws, va_at D cl q H) : va_P D cl ws H := fun k q hk => h q (List.mem_of_getElem? hk)
theorem D_of {E : En} {S : St} {A : Nat → Prop} (h1 : ∀ a b, a ∈ ids S → b ∈ ids S → E.ad a = E.ad b → a = b) (h2 : ∀ a, a ∈ ids S → A (E.ad a)) : va_D A (wsOf E S) := by
  refine ⟨fun i j p q hi hj hpq => ?_, fun k q hk => ?_⟩
  · unfold wsOf at hi hj
    rw [List.getElem?_map] at hi hj
    cases ha : (ids S)[i]? with
    | none => rw [ha] at hi; cases hi
    | some a =>
      cases hb : (ids S)[j]? with
      | none => rw [hb] at hj; cases hj
      | some b =>
        rw [ha] at hi
        rw [hb] at hj
        obtain rfl := Option.some.inj hi
        obtain rfl := Option.some.inj hj
        have e := h1 a b (List.mem_of_getElem? ha) (List.mem_of_getElem? hb) hpq
        subst e
        exact (List.getElem?_inj (List.getElem?_eq_some_iff.mp ha).1 (ids_nodup S)).mp (ha.trans hb.symm)
  · unfold wsOf at hk
    rw [List.getElem?_map] at hk
    cases ha : (ids S)[k]? with
    | none => rw [ha] at hk; cases hk
    | some a =>
      rw [ha] at hk
      obtain rfl := Option.some.inj hk
      exact h2 a (List.mem_of_getElem? ha)
/-- in a list whose addresses are apart, a member is one place -/
theorem D_one {A : Nat → Prop} {ws : va_W} (hD : va_D A ws) {p q : Nat × va_E} (hp : p ∈ ws) (hq : q ∈ ws) (h : p.1 = q.1) : p = q := by
  obtain ⟨i, hi⟩ := List.getElem?_of_mem hp
  obtain ⟨j, hj⟩ := List.getElem?_of_mem hq
  have e := hD.1 i j p q hi hj h
  subst e
  exact Option.some.inj (hi.symm.trans hj)
theorem arr_q {D : va_G} {a cA n : Nat} {f g : Nat → Option Nat} {H : Heap} (h : va_at D cl (a, .inl (cA, n, .inr (.inr (.inr (.inr f))))) H) (e : ∀ k, k < n → f k = g k) : va_at D cl (a, .inl (cA, n, .inr (.inr (.inr (.inr g))))) H := by
  have h1 : H[a]? = some (vp_cell cA (n, .inr (.inr (.inr (.inr f))))) := h
  show H[a]? = some (vp_cell cA (n, .inr (.inr (.inr (.inr g)))))
  rw [h1, vp_cell_q, vp_cell_q]
  congr 1
  unfold arrV
  congr 1
  apply Array.ext
  · simp
  · intro i h2 h3
    simp at h2
    simp [e i h2]
theorem img_ref : ((sid ++ List.range' 42 18).all (fun id => decide (kk_ id ≠ 0) || (List.range (nfl (kl id))).all (fun k => decide (fk (kl id) k ≠ 1) || (decide (id < 42 → id + off (kl id) k < 42) && decide (42 ≤ id → id < 51 → 42 ≤ id + off (kl id) k ∧ id + off (kl id) k < 51) && decide (51 ≤ id → id < 60 → 51 ≤ id + off (kl id) k ∧ id + off (kl id) k < 60) && decide (60 ≤ id → 60 ≤ id + off (kl id) k))))) = true := by decide +kernel
theorem img_mov : ((sid ++ List.range' 42 18).all (fun id => decide (kk_ id ≠ 0) || (List.range (nfl (kl id))).all (fun k => decide (fk (kl id) k = 0) || decide (fk (kl id) k = 1) || ((decide (id = 24) || decide (id = 32)) && decide (k < 2))))) = true := by decide +kernel
theorem img_kn : ((sid ++ List.range' 42 18).all (fun id => (decide (kk_ id ≠ 5) || decide (id = 10)) && (decide (kk_ id ≠ 6) || decide (id = 15)))) = true := by decide +kernel
theorem ids_sub (S : St) {id : Nat} (h : id ∈ ids S) : id ∈ sid ++ List.range' 42 18 := by
  unfold ids at h
  rcases List.mem_append.mp h with h | h
  · exact List.mem_append_left _ h
  · refine List.mem_append_right _ ?_
    rcases List.mem_append.mp h with h | h
    · split at h
      · cases h
      · rw [List.mem_range'_1] at h ⊢
        omega
    · split at h
      · cases h
      · rw [List.mem_range'_1] at h ⊢
        omega
theorem sid_out {id : Nat} (h : id ∈ sid) : id < 42 ∨ 60 ≤ id := by
  rcases List.mem_append.mp h with h | h <;> rw [List.mem_range'_1] at h <;> omega
/-- cells that were there stand under the grown addresses -/
theorem img_old {E : En} {S : St} {u : Nat → Nat} {n id : Nat} {H : Heap} (hn : n = 0 ∨ n = 1) (hz : rR S 10 n = 0) (hok : okR S = true) (hid : id ∈ ids S) (h10 : id ≠ 10) (h : va_at E.1 cl (E.ad id, cellOf E S id) H) :
    va_at (Ea E (fun x => if 42 + 9 * n ≤ x ∧ x < 51 + 9 * n then u (x - (42 + 9 * n)) else E.ad x)).1 cl (E.ad id, cellOf (Ea E (fun x => if 42 + 9 * n ≤ x ∧ x < 51 + 9 * n then u (x - (42 + 9 * n)) else E.ad x)) (newI S n) id) H := by
  have hout : ¬ (42 + 9 * n ≤ id ∧ id < 51 + 9 * n) := by
    have h := hid
    unfold ids at h
    rcases List.mem_append.mp h with h | h
    · have := sid_out h
      omega
    · rcases List.mem_append.mp h with h | h <;> split at h
      · cases h
      · rw [List.mem_range'_1] at h
        rcases hn with rfl | rfl
        · exact absurd hz (by assumption)
        · omega
      · cases h
      · rw [List.mem_range'_1] at h
        rcases hn with rfl | rfl
        · omega
        · exact absurd hz (by assumption)
  have e1 : rI (newI S n) id = rI S id := by
    funext j
    show (if 42 + 9 * n ≤ id ∧ id < 51 + 9 * n then ini (id - (42 + 9 * n)) j else S.1 id j) = S.1 id j
    rw [if_neg hout]
  have e2 : rJ (newI S n) id = rJ S id := by
    funext j
    show (if 42 + 9 * n ≤ id ∧ id < 51 + 9 * n then 0 else S.2.1 id j) = S.2.1 id j
    rw [if_neg hout]
  have e3 : rR (newI S n) id = rR S id := by
    funext j
    show (if id = 10 ∧ j = n then 42 + 9 * n else S.2.2 id j) = S.2.2 id j
    rw [if_neg (fun h => h10 h.1)]
  have hin := ids_sub S hid
  have r1 := List.all_eq_true.mp img_ref id hin
  have r2 := List.all_eq_true.mp img_mov id hin
  have r3 := List.all_eq_true.mp img_kn id hin
  simp only [Bool.and_eq_true, Bool.or_eq_true, decide_eq_true_eq] at r3
  by_cases h0 : kk_ id = 0
  · have e4 : (List.range (nfl (kl id))).map (fv (Ea E (fun x => if 42 + 9 * n ≤ x ∧ x < 51 + 9 * n then u (x - (42 + 9 * n)) else E.ad x)) (newI S n) id (kl id)) = (List.range (nfl (kl id))).map (fv E S id (kl id)) := by
      apply List.map_congr_left
      intro k hk
      simp only [Bool.or_eq_true, decide_eq_true_eq, ne_eq, h0, not_true_eq_false, false_or] at r1 r2
      have q1 := List.all_eq_true.mp r1 k hk
      have q2 := List.all_eq_true.mp r2 k hk
      simp only [Bool.or_eq_true, Bool.and_eq_true, decide_eq_true_eq] at q1 q2
      unfold fv
      rw [e1, e3]
      split
      · rfl
      · split
        · rename_i f0 f1
          have q1 := q1.resolve_left (fun z => z f1)
          show Value.ref (if 42 + 9 * n ≤ id + off (kl id) k ∧ id + off (kl id) k < 51 + 9 * n then _ else E.ad (id + off (kl id) k)) = _
          rw [if_neg]
          have := ids_sub S hid
          rcases List.mem_append.mp this with h | h
          · have := sid_out h
            omega
          · rw [List.mem_range'_1] at h
            rcases hn with rfl | rfl <;> omega
        · rename_i f0 f1
          have q2 := (q2.resolve_left (fun z => z.elim f0 f1))
          show Value.ref (if 42 + 9 * n ≤ rR S id k ∧ rR S id k < 51 + 9 * n then _ else E.ad (rR S id k)) = _
          rw [if_neg]
          simp only [okR, Bool.and_eq_true, Bool.or_eq_true, decide_eq_true_eq] at hok
          obtain ⟨⟨⟨⟨⟨o1, o2⟩, o3⟩, o4⟩, -⟩, -⟩ := hok
          have hk2 : k = 0 ∨ k = 1 := by omega
          rcases q2.1 with rfl | rfl <;> rcases hk2 with rfl | rfl <;> omega
    have hc : cellOf (Ea E (fun x => if 42 + 9 * n ≤ x ∧ x < 51 + 9 * n then u (x - (42 + 9 * n)) else E.ad x)) (newI S n) id = cellOf E S id := by
      unfold cellOf
      rw [if_pos h0, if_pos h0, e4]
    rw [hc]
    exact h
  · by_cases h6 : kk_ id = 6
    · have hid15 : id = 15 := r3.2.resolve_left (fun z => z h6)
      subst hid15
      refine arr_q (f := fun k => some (E.ad (16 + 2 * k))) h (fun k hk => ?_)
      show some (E.ad (16 + 2 * k)) = some (if 42 + 9 * n ≤ 16 + 2 * k ∧ 16 + 2 * k < 51 + 9 * n then _ else E.ad (16 + 2 * k))
      have hk : k < 4 := hk
      rw [if_neg (by omega)]
    · have h5 : kk_ id ≠ 5 := fun z => h10 (r3.1.resolve_left (fun y => y z))
      have hc : cellOf (Ea E (fun x => if 42 + 9 * n ≤ x ∧ x < 51 + 9 * n then u (x - (42 + 9 * n)) else E.ad x)) (newI S n) id = cellOf E S id := by
        unfold cellOf
        rw [if_neg h0, if_neg h0, e1, e2, if_neg h5, if_neg h5, if_neg h6, if_neg h6]
      rw [hc]
      exact h
