/-! small facts on numbers and on the memories -/
theorem i_lt (x c : Int32) (z : Int) (hc : c.toInt = z := by decide) : x < c ↔ x.toInt < z := by subst hc; exact Int32.lt_iff_toInt_lt
theorem i_le (x c : Int32) (z : Int) (hc : c.toInt = z := by decide) : x ≤ c ↔ x.toInt ≤ z := by subst hc; exact Int32.le_iff_toInt_le
theorem i_gt (x c : Int32) (z : Int) (hc : c.toInt = z := by decide) : c < x ↔ z < x.toInt := by subst hc; exact Int32.lt_iff_toInt_lt
theorem i_ge (x c : Int32) (z : Int) (hc : c.toInt = z := by decide) : c ≤ x ↔ z ≤ x.toInt := by subst hc; exact Int32.le_iff_toInt_le
theorem i_eq (x c : Int32) (z : Int) (hc : c.toInt = z := by decide) : x = c ↔ x.toInt = z := by subst hc; exact Int32.toInt_inj.symm
theorem nT {n : Nat} (h : n < 2 ^ 31) : (nI n).toInt = (n : Int) := nI_toInt h
theorem i_nat {x : Int32} {n : Nat} (h0 : 0 ≤ x.toInt) (h1 : x.toInt < n) : ∃ j : Nat, j < n ∧ x = nI j := by
  have h2 : x.toInt < 2147483648 := by have := Int32.toInt_lt x; omega
  refine ⟨x.toInt.toNat, by omega, ?_⟩
  apply Int32.toInt_inj.mp
  rw [nT (by omega)]
  omega
theorem kl_le (id : Nat) : kl id ≤ 1296 := by
  by_cases h : id < 81
  · have key : (List.range 81).all (fun id => decide (kl id ≤ 1296)) = true := by decide +kernel
    exact of_decide_eq_true (List.all_eq_true.mp key id (List.mem_range.mpr h))
  · have e : kd id = (9, 0) := by
      unfold kd
      rw [List.getD_eq_getElem?_getD, List.getElem?_eq_none (by simp; omega)]
      rfl
    show (kd id).2 ≤ 1296
    rw [e]
    decide
theorem inB_nI {k n : Nat} (h : k < n) (hn : n < 2 ^ 31) : inB (nI k) n = true := by
  unfold inB
  rw [nI_clamp (by omega)]
  simp only [Bool.and_eq_true, Bool.not_eq_true', decide_eq_false_iff_not, decide_eq_true_eq]
  exact ⟨nI_pos (by omega), h⟩
def stat (kn id : Nat) : Bool := decide (id ∈ sid) && decide (kk_ id = kn)
theorem stat_s {kn id : Nat} (h : stat kn id = true) (S : St) : kk_ id = kn ∧ id ∈ ids S := by
  simp only [stat, Bool.and_eq_true, decide_eq_true_eq] at h
  exact ⟨h.2, List.mem_append_left _ h.1⟩
theorem ldA_e {S : St} {id k : Nat} {i : Int32} (h1 : kk_ id = 1) (h2 : id ∈ ids S) (hi : i = nI k) (hk : k < kl id) : ldA S id i = some (rI S id k) := by
  subst hi
  have := kl_le id
  unfold ldA
  rw [if_pos ⟨h1, h2, inB_nI hk (by omega)⟩, nI_clamp (by omega)]
theorem stA_e {S : St} {id k : Nat} {i v : Int32} (h1 : kk_ id = 1) (h2 : id ∈ ids S) (hi : i = nI k) (hk : k < kl id) : stA S id i v = some (wI S id k v) := by
  subst hi
  have := kl_le id
  unfold stA
  rw [if_pos ⟨h1, h2, inB_nI hk (by omega)⟩, nI_clamp (by omega)]
theorem ldA_s (S : St) (id k : Nat) {i : Int32} (hs : stat 1 id = true) (hi : i = nI k) (hk : k < kl id) : ldA S id i = some (rI S id k) := ldA_e (stat_s hs S).1 (stat_s hs S).2 hi hk
theorem stA_s (S : St) (id k : Nat) {i : Int32} (v : Int32) (hs : stat 1 id = true) (hi : i = nI k) (hk : k < kl id) : stA S id i v = some (wI S id k v) := stA_e (stat_s hs S).1 (stat_s hs S).2 hi hk
theorem ldL_s (S : St) (id k : Nat) {i : Int32} (hs : stat 2 id = true) (hi : i = nI k) (hk : k < kl id) : ldL S id i = some (rJ S id k) := by
  subst hi
  have := kl_le id
  unfold ldL
  rw [if_pos ⟨(stat_s hs S).1, (stat_s hs S).2, inB_nI hk (by omega)⟩, nI_clamp (by omega)]
theorem stL_s (S : St) (id k : Nat) {i : Int32} (v : Int64) (hs : stat 2 id = true) (hi : i = nI k) (hk : k < kl id) : stL S id i v = some (wJ S id k v) := by
  subst hi
  have := kl_le id
  unfold stL
  rw [if_pos ⟨(stat_s hs S).1, (stat_s hs S).2, inB_nI hk (by omega)⟩, nI_clamp (by omega)]
theorem ldT_s (f : Nat → Int32) (k : Nat) {i : Int32} (hi : i = nI k) (hk : k < 6) : ldT f i = some (f k) := by
  subst hi
  unfold ldT
  rw [if_pos (inB_nI hk (by omega)), nI_clamp (by omega)]
theorem ldS_s (k : Nat) {i : Int32} (hi : i = nI k) (hk : k < 4) : ldS i = some (16 + 2 * k) := by
  subst hi
  unfold ldS
  rw [if_pos (inB_nI hk (by omega)), nI_clamp (by omega)]
/-! reading behind writing -/
theorem rI_wI (S : St) (a k : Nat) (v : Int32) (b j : Nat) : rI (wI S a k v) b j = if b = a ∧ j = k then v else rI S b j := rfl
theorem rI_wI_s (S : St) (a k : Nat) (v : Int32) : rI (wI S a k v) a k = v := if_pos ⟨rfl, rfl⟩
theorem rI_wI_a {S : St} {a k : Nat} {v : Int32} {b j : Nat} (h : b ≠ a) : rI (wI S a k v) b j = rI S b j := if_neg (fun z => h z.1)
theorem rI_wI_k {S : St} {a k : Nat} {v : Int32} {b j : Nat} (h : j ≠ k) : rI (wI S a k v) b j = rI S b j := if_neg (fun z => h z.2)
theorem rJ_wI (S : St) (a k : Nat) (v : Int32) (b j : Nat) : rJ (wI S a k v) b j = rJ S b j := rfl
theorem rR_wI (S : St) (a k : Nat) (v : Int32) (b j : Nat) : rR (wI S a k v) b j = rR S b j := rfl
theorem rI_wJ (S : St) (a k : Nat) (v : Int64) (b j : Nat) : rI (wJ S a k v) b j = rI S b j := rfl
theorem rJ_wJ (S : St) (a k : Nat) (v : Int64) (b j : Nat) : rJ (wJ S a k v) b j = if b = a ∧ j = k then v else rJ S b j := rfl
theorem rR_wJ (S : St) (a k : Nat) (v : Int64) (b j : Nat) : rR (wJ S a k v) b j = rR S b j := rfl
theorem rI_wR (S : St) (a k v : Nat) (b j : Nat) : rI (wR S a k v) b j = rI S b j := rfl
theorem rJ_wR (S : St) (a k v : Nat) (b j : Nat) : rJ (wR S a k v) b j = rJ S b j := rfl
theorem rR_wR (S : St) (a k v : Nat) (b j : Nat) : rR (wR S a k v) b j = if b = a ∧ j = k then v else rR S b j := rfl
/-! index expressions as the code has them -/
theorem ix3 (a b r w : Nat) : nI a + nI b * nI r + nI w = nI (a + b * r + w) := by rw [pk_mul, nI_add, nI_add]
theorem ix2 (b r w : Nat) : nI r * nI b + nI w = nI (b * r + w) := by rw [pk_mul, nI_add, Nat.mul_comm]
theorem ix2' (b r w : Nat) : nI b * nI r + nI w = nI (b * r + w) := by rw [pk_mul, nI_add]
/-! the reference's 'in' -/
theorem in_ok (S : St) (a b c : Int64) : X11_in S a b c = some (if b.toInt ≤ a.toInt ∧ a.toInt ≤ c.toInt then 1 else 0) := by
  unfold X11_in
  simp only [lg_cmp_lt, lg_cmp_gt, Int64.lt_iff_toInt_lt]
  by_cases h1 : a.toInt < b.toInt
  · rw [if_pos h1, if_neg (by omega)]
  · rw [if_neg h1]
    by_cases h2 : c.toInt < a.toInt
    · rw [if_pos h2, if_neg (by omega)]
    · rw [if_neg h2, if_pos (by omega)]
theorem in32 (S : St) (x : Int32) (b c : Int64) (zb zc : Int) (hb : b.toInt = zb := by decide) (hc : c.toInt = zc := by decide) : X11_in S x.toInt64 b c = some (if zb ≤ x.toInt ∧ x.toInt ≤ zc then 1 else 0) := by
  rw [in_ok, hb, hc, Int32.toInt_toInt64]
theorem bd {α β : Type} {x : Option α} {a : α} {f : α → Option β} (h : x = some a) : x.bind f = f a := by rw [h]; rfl
theorem i_leN {m n : Nat} (hm : m < 2 ^ 31) (hn : n < 2 ^ 31) : nI m ≤ nI n ↔ m ≤ n := nI_leI hm hn
theorem some_if {α : Type} {c : Prop} [Decidable c] {a b : α} : (if c then some a else some b) = some (if c then a else b) := by split <;> rfl
