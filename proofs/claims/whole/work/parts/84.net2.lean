/-! nets: facts on the trees; the class's decoding -/
theorem ckAll {n t : Nat} (h2 : 2 ≤ n) (h6 : n ≤ 6) (ht : t < n ^ (n - 2)) : ckT n t = true := by
  have h : ckN n = true := by
    have hn : n = 2 ∨ n = 3 ∨ n = 4 ∨ n = 5 ∨ n = 6 := by omega
    rcases hn with rfl | rfl | rfl | rfl | rfl
    · exact ck2
    · exact ck3
    · exact ck4
    · exact ck5
    · exact ck6
  exact List.all_eq_true.mp h t (List.mem_range.mpr ht)
/-- a tree -/
def Tre (n t : Nat) : Prop := 2 ≤ n ∧ n ≤ 6 ∧ t < n ^ (n - 2)
theorem pw_b {n : Nat} (h2 : 2 ≤ n) (h6 : n ≤ 6) : n ^ (n - 2) ≤ 1296 := by
  have hn : n = 2 ∨ n = 3 ∨ n = 4 ∨ n = 5 ∨ n = 6 := by omega
  rcases hn with rfl | rfl | rfl | rfl | rfl <;> decide
theorem Tre.b {n t : Nat} (h : Tre n t) : t < 1296 := Nat.lt_of_lt_of_le h.2.2 (pw_b h.1 h.2.1)
section TRE
variable {n t i j v : Nat}
theorem tr_1 (h : Tre n t) (hi : i < n - 1) : lea n t i < n ∧ dgt (PZ n t i) (lea n t i) = 1 ∧ par n t i < n := by
  have k := ckAll h.1 h.2.1 h.2.2
  unfold ckT at k
  simp only [Bool.and_eq_true] at k
  have := List.all_eq_true.mp k.1.1.1 i (List.mem_range.mpr hi)
  simp only [Bool.and_eq_true, decide_eq_true_eq] at this
  exact ⟨this.1.1, this.1.2, this.2⟩
theorem tr_2 (h : Tre n t) (hi : i < n - 2) : par n t i ≠ lea n t i ∧ 1 ≤ dgt (PZ n t i) (par n t i) := by
  have k := ckAll h.1 h.2.1 h.2.2
  unfold ckT at k
  simp only [Bool.and_eq_true] at k
  have := List.all_eq_true.mp k.1.1.2 i (List.mem_range.mpr hi)
  simp only [Bool.and_eq_true, decide_eq_true_eq] at this
  exact this
theorem tr_3 (h : Tre n t) : lea n t (n - 2) < par n t (n - 2) ∧ dgt (PZ n t (n - 2)) (par n t (n - 2)) = 1 := by
  have k := ckAll h.1 h.2.1 h.2.2
  unfold ckT at k
  simp only [Bool.and_eq_true] at k
  exact ⟨of_decide_eq_true k.1.2.1, of_decide_eq_true k.1.2.2⟩
theorem tr_4 (h : Tre n t) (hj : j < n - 1) : TH n t j < 64 ∧ (TH n t j).testBit (par n t (n - 2 - j)) = true ∧ (TH n t j).testBit (lea n t (n - 2 - j)) = false := by
  have k := ckAll h.1 h.2.1 h.2.2
  unfold ckT at k
  simp only [Bool.and_eq_true] at k
  have := List.all_eq_true.mp k.2 j (List.mem_range.mpr hj)
  simp only [Bool.and_eq_true, decide_eq_true_eq, Bool.not_eq_true'] at this
  exact ⟨this.1.1, this.1.2, this.2⟩
theorem co_lt (k : Nat) (h : 0 < n) : co n t k < n := Nat.mod_lt _ h
theorem dgt_lt (P v : Nat) : dgt P v < 8 := Nat.mod_lt _ (by decide)
theorem dgt_aS {P x : Nat} (hx : x < 6) (h : dgt P x < 7) : dgt (P + 8 ^ x) x = dgt P x + 1 := by
  have h6 : x = 0 ∨ x = 1 ∨ x = 2 ∨ x = 3 ∨ x = 4 ∨ x = 5 := by omega
  rcases h6 with rfl | rfl | rfl | rfl | rfl | rfl <;> simp only [dgt, Nat.reducePow] at h ⊢ <;> omega
theorem dgt_aN {P x : Nat} (hx : x < 6) (hv : v < 6) (h : dgt P x < 7) (hn : v ≠ x) : dgt (P + 8 ^ x) v = dgt P v := by
  have h6 : x = 0 ∨ x = 1 ∨ x = 2 ∨ x = 3 ∨ x = 4 ∨ x = 5 := by omega
  have h7 : v = 0 ∨ v = 1 ∨ v = 2 ∨ v = 3 ∨ v = 4 ∨ v = 5 := by omega
  rcases h6 with rfl | rfl | rfl | rfl | rfl | rfl <;> rcases h7 with rfl | rfl | rfl | rfl | rfl | rfl <;> simp only [dgt, Nat.reducePow] at h ⊢ <;> omega
theorem dgt_sS {P x : Nat} (hx : x < 6) (h : 1 ≤ dgt P x) : dgt (P - 8 ^ x) x = dgt P x - 1 := by
  have h6 : x = 0 ∨ x = 1 ∨ x = 2 ∨ x = 3 ∨ x = 4 ∨ x = 5 := by omega
  rcases h6 with rfl | rfl | rfl | rfl | rfl | rfl <;> simp only [dgt, Nat.reducePow] at h ⊢ <;> omega
theorem dgt_sN {P x : Nat} (hx : x < 6) (hv : v < 6) (h : 1 ≤ dgt P x) (hn : v ≠ x) : dgt (P - 8 ^ x) v = dgt P v := by
  have h6 : x = 0 ∨ x = 1 ∨ x = 2 ∨ x = 3 ∨ x = 4 ∨ x = 5 := by omega
  have h7 : v = 0 ∨ v = 1 ∨ v = 2 ∨ v = 3 ∨ v = 4 ∨ v = 5 := by omega
  rcases h6 with rfl | rfl | rfl | rfl | rfl | rfl <;> rcases h7 with rfl | rfl | rfl | rfl | rfl | rfl <;> simp only [dgt, Nat.reducePow] at h ⊢ <;> omega
theorem P0_0 (hv : v < 6) : dgt 37449 v = 1 := by
  have h7 : v = 0 ∨ v = 1 ∨ v = 2 ∨ v = 3 ∨ v = 4 ∨ v = 5 := by omega
  rcases h7 with rfl | rfl | rfl | rfl | rfl | rfl <;> decide
theorem P0_b (h1 : 1 ≤ n) (h6 : n ≤ 6) : ∀ k, k ≤ 4 → ∀ v, v < 6 → dgt (P0 n t k) v ≤ 1 + k
  | 0, _, v, hv => by
    show dgt 37449 v ≤ 1
    rw [P0_0 hv]
    exact Nat.le_refl 1
  | k + 1, hk, v, hv => by
    have ih := P0_b h1 h6 k (by omega)
    have hc := co_lt (n := n) (t := t) k (by omega)
    have h7 := ih (co n t k) (by omega)
    show dgt (P0 n t k + 8 ^ co n t k) v ≤ 1 + (k + 1)
    by_cases hvc : v = co n t k
    · rw [hvc, dgt_aS (by omega) (by omega)]
      omega
    · rw [dgt_aN (by omega) hv (by omega) hvc]
      have := ih v hv
      omega
theorem lfA_min (P : Nat) : ∀ c k x, k ≤ x → x < lfA P c k → dgt P x ≠ 1
  | 0, k, x, h1, h2 => by
    have h2 : x < k := h2
    omega
  | c + 1, k, x, h1, h2 => by
    have h2 : x < if dgt P k = 1 then k else lfA P c (k + 1) := h2
    by_cases h : dgt P k = 1
    · rw [if_pos h] at h2
      omega
    · rw [if_neg h] at h2
      by_cases hx : x = k
      · rw [hx]
        exact h
      · exact lfA_min P c (k + 1) x (by omega) h2
theorem lea_min {x : Nat} (h : x < lea n t i) : dgt (PZ n t i) x ≠ 1 := lfA_min _ n 0 x (Nat.zero_le _) h
theorem par_min {x : Nat} (h1 : lea n t (n - 2) < x) (h2 : x < par n t (n - 2)) : dgt (PZ n t (n - 2)) x ≠ 1 := by
  unfold par at h2
  rw [if_neg (Nat.lt_irrefl _)] at h2
  exact lfA_min _ _ _ x h1 h2
theorem par_co (hi : i < n - 2) : par n t i = co n t i := if_pos hi
theorem PZ_l (h : Tre n t) (hi : i < n - 1) (hv : v < n) : dgt (PZ n t i - 8 ^ lea n t i) v = if v = lea n t i then 0 else dgt (PZ n t i) v := by
  obtain ⟨a1, a2, a3⟩ := tr_1 h hi
  have h6 := h.2.1
  by_cases e : v = lea n t i
  · rw [if_pos e, e, dgt_sS (by omega) (by omega)]
    omega
  · rw [if_neg e, dgt_sN (by omega) (by omega) (by omega) e]
theorem PZ_s (h : Tre n t) (hi : i < n - 2) (hv : v < n) : dgt (PZ n t (i + 1)) v = if v = par n t i then dgt (PZ n t i) (par n t i) - 1 else if v = lea n t i then 0 else dgt (PZ n t i) v := by
  obtain ⟨a1, a2, a3⟩ := tr_1 h (i := i) (by omega)
  obtain ⟨b1, b2⟩ := tr_2 h hi
  have h6 := h.2.1
  have e : PZ n t (i + 1) = (PZ n t i - 8 ^ lea n t i) - 8 ^ par n t i := by
    rw [par_co hi]
    rfl
  have c1 := PZ_l h (i := i) (by omega) a3
  rw [if_neg b1] at c1
  rw [e]
  by_cases ep : v = par n t i
  · rw [if_pos ep, ep, dgt_sS (by omega) (by omega), c1]
  · rw [if_neg ep, dgt_sN (by omega) (by omega) (by omega) ep]
    exact PZ_l h (by omega) hv
end TRE
theorem cg2 {α β γ : Type} (f : α → β → γ) {a a' : α} {b b' : β} (h1 : a = a') (h2 : b = b') : f a b = f a' b' := by rw [h1, h2]
theorem rmN {a d : Nat} (ha : a < 2 ^ 31) (h0 : 0 < d) (hd : d < 2 ^ 31) : rmO (nI a) (nI d) = some (nI (a % d)) := by
  unfold rmO
  rw [if_neg (nI_ne0 h0 hd)]
  exact congrArg some (pk_rem ha h0 hd)
theorem dvN {a d : Nat} (ha : a < 2 ^ 31) (h0 : 0 < d) (hd : d < 2 ^ 31) : dvO (nI a) (nI d) = some (nI (a / d)) := by
  unfold dvO
  rw [if_neg (nI_ne0 h0 hd)]
  exact congrArg some (pk_div ha h0 hd)
/-- the class's net stands -/
def NX (A : Ch) (n : Nat) (M : Nat → Nat) (T : St) : Prop := HX T 1 A ∧ rI T 35 0 = nI n ∧ ∀ j, j < n → rI T 36 j = nI (M j)
/-- a pair that can send to each other -/
def gdP (A : Ch) (M : Nat → Nat) (n t i : Nat) : Prop := A.wire (M (lea n t i)) (M (par n t i)) ≠ 0 ∧ A.wire (M (par n t i)) (M (lea n t i)) ≠ 0
def Good (A : Ch) (M : Nat → Nat) (n t : Nat) : Prop := (∀ v, v < n → dgt (PZ n t 0) v ≤ A.most) ∧ ∀ i, i < n - 1 → gdP A M n t i
section NC
variable {A : Ch} {n t : Nat} {M : Nat → Nat} {T : St}
theorem NX.un {T' : St} (h : NX A n M T) (hu : Un [37, 38, 39, 40, 41] T T') : NX A n M T' :=
  ⟨h.1.un hu (fun k hk => by simp <;> omega), ((hu 35 (by decide)).1 0).trans h.2.1, fun j hj => ((hu 36 (by decide)).1 j).trans (h.2.2 j hj)⟩
theorem blinks_ok (h : NX A n M T) (h6 : n ≤ 6) (hM : ∀ j, j < n → M j < 8) {a b : Nat} (ha : a < n) (hb : b < n) : X4_blinksOf T (nI a) (nI b) = some (nI (A.wire (M a) (M b))) := by
  unfold X4_blinksOf
  refine (bd ((ldA_s T 36 a rfl rfl (by show _ < 6; omega)).trans (congrArg some (h.2.2 a ha)))).trans ?_
  refine (bd ((ldA_s T 36 b rfl rfl (by show _ < 6; omega)).trans (congrArg some (h.2.2 b hb)))).trans ?_
  exact bd (betw h.1 (hM a ha) (hM b hb))
theorem takeLeaf_ok {l : Nat} {f : Nat → Nat} (h35 : rI T 35 0 = nI n) (h6 : n ≤ 6) (hf : ∀ v, v < n → rI T 38 v = nI (f v) ∧ f v < 100) (hl : l < n) (h1 : f l = 1) (hm : ∀ k, k < l → f k ≠ 1) : X4_takeLeaf T = some (nI l, wI T 38 l 0) := by
  have key : ∀ c m k, k + c = l → c < m → X4_takeLeaf_L2 m (nI k) T = some (.inr (nI l, wI T 38 l 0)) := by
    intro c
    induction c with
    | zero =>
      intro m k hk hm2
      obtain ⟨m, rfl⟩ : ∃ m', m = m' + 1 := ⟨m - 1, by omega⟩
      have hk : k = l := hk
      subst hk
      refine (if_neg (by rw [h35]; exact nI_ge hl (by omega))).trans ?_
      refine (bd ((ldA_s T 38 k rfl rfl (by show _ < 6; omega)).trans (congrArg some (hf k hl).1))).trans ?_
      refine (if_pos (by rw [h1]; rfl)).trans ?_
      exact bd (stA_s T 38 k _ rfl rfl (by show _ < 6; omega))
    | succ c ih =>
      intro m k hk hm2
      obtain ⟨m, rfl⟩ : ∃ m', m = m' + 1 := ⟨m - 1, by omega⟩
      refine (if_neg (by rw [h35]; exact nI_ge (by omega) (by omega))).trans ?_
      have hfk := hf k (by omega)
      refine (bd ((ldA_s T 38 k rfl rfl (by show _ < 6; omega)).trans (congrArg some hfk.1))).trans ?_
      refine (if_neg (fun z => hm k (by omega) ((nI_eq (b := 1) (by omega) (by decide)).mp z))).trans ?_
      rw [nI_1]
      exact ih m (k + 1) (by omega) (by omega)
  unfold X4_takeLeaf
  exact bd (key l FU 0 (by omega) (FU_lt (by omega)))
theorem fill38 (S : St) : ∃ T, J7_fill_53178 S 38 1 = some T ∧ Un [38] S T ∧ ∀ v, v < 6 → rI T 38 v = nI 1 := by
  obtain ⟨T, hT, q⟩ := forG (fun fu k (s : St) => J7_fill_53178_L5 38 1 6 fu (nI k) s) 6 (fun k s => Un [38] S s ∧ ∀ v, v < k → rI s 38 v = nI 1) (fun s => Un [38] S s ∧ ∀ v, v < 6 → rI s 38 v = nI 1) (fun fu s hp => ⟨s, if_pos (by decide), hp⟩) (fun fu k s hk hp => by
    right
    refine ⟨wI s 38 k (nI 1), ?_, hp.1.trs (Un.wI _ _ _ _ (by simp)), fun v hv => ?_⟩
    · show J7_fill_53178_L5 38 1 6 (fu + 1) (nI k) s = J7_fill_53178_L5 38 1 6 fu (nI (k + 1)) _
      refine (if_neg (nI_ge (b := 6) hk (by decide))).trans ?_
      refine (bd (stA_s s 38 k _ rfl rfl hk)).trans ?_
      rw [nI_1]
      rfl
    · rw [rI_wI]
      by_cases e : v = k
      · rw [if_pos ⟨rfl, e⟩]
      · rw [if_neg (fun z => e z.2)]
        exact hp.2 v (by omega)) 6 FU 0 S (by omega) (FU_lt (by omega)) ⟨Un.rf _ _, fun v hv => by omega⟩
  refine ⟨T, ?_, q⟩
  unfold J7_fill_53178
  refine (bd (al_ok (b := 38) (n := 6) ⟨rfl, rfl, in_sid S rfl⟩)).trans ?_
  exact bd hT
theorem dec13 (hT : Tre n t) (h35 : rI T 35 0 = nI n) (h38 : ∀ v, v < 6 → rI T 38 v = nI 1) : ∃ T', X4_decode_L13 FU (nI t) 0 T = some T' ∧ Un [37, 38] T T' ∧ (∀ k, k < n - 2 → rI T' 37 k = nI (co n t k)) ∧ (∀ v, v < 6 → rI T' 38 v = nI (dgt (PZ n t 0) v)) := by
  have hn2 := hT.1
  have hn6 := hT.2.1
  have ht := hT.b
  have e2 : nI n - 2 = nI (n - 2) := pk_sub (b := 2) (by omega)
  obtain ⟨T', h1, q⟩ := forG (fun fu k (s : Int32 × St) => X4_decode_L13 fu s.1 (nI k) s.2) (n - 2) (fun k s => s.1 = nI (t / n ^ k) ∧ Un [37, 38] T s.2 ∧ (∀ j, j < k → rI s.2 37 j = nI (co n t j)) ∧ (∀ v, v < 6 → rI s.2 38 v = nI (dgt (P0 n t k) v))) (fun s => Un [37, 38] T s ∧ (∀ k, k < n - 2 → rI s 37 k = nI (co n t k)) ∧ (∀ v, v < 6 → rI s 38 v = nI (dgt (PZ n t 0) v))) (fun fu s hp => ⟨s.2, if_pos (by
      rw [(hp.2.1 35 (by decide)).1 0, h35, e2]
      exact nI_le (Nat.le_refl _) (by omega)), hp.2⟩) (fun fu k s hk hp => by
    obtain ⟨p1, p2, p3, p4⟩ := hp
    have d35 : rI s.2 35 0 = nI n := ((p2 35 (by decide)).1 0).trans h35
    have hc := co_lt (n := n) (t := t) k (by omega)
    have htk : t / n ^ k ≤ t := Nat.div_le_self _ _
    have hb := P0_b (n := n) (t := t) (by omega) hn6 k (by omega)
    have hbc := hb (co n t k) (by omega)
    right
    refine ⟨(nI (t / n ^ (k + 1)), wI (wI s.2 37 k (nI (co n t k))) 38 (co n t k) (nI (dgt (P0 n t k) (co n t k) + 1))), ?_, rfl, p2.trs ((Un.wI _ _ _ _ (by simp)).trs (Un.wI _ _ _ _ (by simp))), fun j hj => ?_, fun v hv => ?_⟩
    · show X4_decode_L13 (fu + 1) s.1 (nI k) s.2 = X4_decode_L13 fu (nI (t / n ^ (k + 1))) (nI (k + 1)) _
      refine (if_neg (by rw [d35, e2]; exact nI_ge hk (by omega))).trans ?_
      refine (bd ((cg2 rmO p1 d35).trans (rmN (by omega) (by omega) (by omega)))).trans ?_
      refine (bd (stA_s s.2 37 k _ rfl rfl (by show _ < 6; omega))).trans ?_
      refine (bd ((cg2 dvO p1 (show rI (wI s.2 37 k (nI (t / n ^ k % n))) 35 0 = nI n by rw [rI_wI_a (by decide)]; exact d35)).trans (dvN (by omega) (by omega) (by omega)))).trans ?_
      refine (bd ((ldA_s _ 37 k rfl rfl (by show _ < 6; omega)).trans (congrArg some (rI_wI_s _ _ _ _)))).trans ?_
      refine (bd ((ldA_s _ 38 (co n t k) rfl rfl (by show _ < 6; omega)).trans (congrArg some ((rI_wI_a (by decide)).trans (p4 _ (by omega)))))).trans ?_
      refine (bd (stA_s _ 38 (co n t k) _ rfl rfl (by show _ < 6; omega))).trans ?_
      rw [nI_1, nI_1, Nat.div_div_eq_div_mul, ← Nat.pow_succ]
      rfl
    · show rI (wI (wI s.2 37 k (nI (co n t k))) 38 (co n t k) _) 37 j = _
      rw [rI_wI_a (by decide), rI_wI]
      by_cases e : j = k
      · rw [if_pos ⟨rfl, e⟩, e]
      · rw [if_neg (fun z => e z.2)]
        exact p3 j (by omega)
    · show rI (wI (wI s.2 37 k (nI (co n t k))) 38 (co n t k) _) 38 v = nI (dgt (P0 n t k + 8 ^ co n t k) v)
      rw [rI_wI]
      by_cases e : v = co n t k
      · rw [if_pos ⟨rfl, e⟩, e, dgt_aS (by omega) (by omega)]
      · rw [if_neg (fun z => e z.2), rI_wI_a (by decide), p4 v hv, dgt_aN (by omega) hv (by omega) e]) (n - 2) FU 0 (nI t, T) (by omega) (FU_lt (by omega)) ⟨by show nI t = nI (t / n ^ 0); rw [Nat.pow_zero, Nat.div_one], Un.rf _ _, fun j hj => by omega, fun v hv => by
      show rI T 38 v = nI (dgt 37449 v)
      rw [P0_0 hv]
      exact h38 v hv⟩
  exact ⟨T', h1, q⟩
theorem dec69 (hN : NX A n M T) (hw : Wf A) (h6 : n ≤ 6) {P : Nat} (h38 : ∀ v, v < n → rI T 38 v = nI (dgt P v)) : (X4_decode_L69 T FU 0 = some (.inl ()) ∧ ∀ v, v < n → dgt P v ≤ A.most) ∨ (X4_decode_L69 T FU 0 = some (.inr (0, T)) ∧ ¬ ∀ v, v < n → dgt P v ≤ A.most) := by
  have em : rI T 2 2 = nI A.most := hN.1.1.2.2.1
  have hm := hw.2.2.2.2.2.2.1.2
  obtain ⟨r, h, q⟩ := forG (fun fu k (_ : Unit) => X4_decode_L69 T fu (nI k)) n (fun k _ => ∀ v, v < k → dgt P v ≤ A.most) (fun r => (r = .inl () ∧ ∀ v, v < n → dgt P v ≤ A.most) ∨ (r = .inr (0, T) ∧ ¬ ∀ v, v < n → dgt P v ≤ A.most)) (fun fu _ hp => ⟨.inl (), if_pos (by rw [hN.2.1]; exact nI_le (Nat.le_refl _) (by omega)), Or.inl ⟨rfl, hp⟩⟩) (fun fu k _ hk hp => by
    have hd := dgt_lt P k
    have e0 : X4_decode_L69 T (fu + 1) (nI k) = if nI (dgt P k) ≤ nI A.most then X4_decode_L69 T fu (nI (k + 1)) else some (.inr (0, T)) := by
      refine (if_neg (by rw [hN.2.1]; exact nI_ge hk (by omega))).trans ?_
      refine (bd ((ldA_s T 38 k rfl rfl (by show _ < 6; omega)).trans (congrArg some (h38 k hk)))).trans ?_
      rw [em, nI_1]
    by_cases hle : dgt P k ≤ A.most
    · right
      refine ⟨(), ?_, fun v hv => ?_⟩
      · show X4_decode_L69 T (fu + 1) (nI k) = _
        rw [e0, if_pos (nI_le hle (by omega))]
      · by_cases e : v = k
        · rw [e]; exact hle
        · exact hp v (by omega)
    · left
      refine ⟨_, ?_, Or.inr ⟨rfl, fun z => hle (z k hk)⟩⟩
      show X4_decode_L69 T (fu + 1) (nI k) = _
      rw [e0, if_neg (fun z => hle ((nI_leI (by omega) (by omega)).mp z))]) n FU 0 () (by omega) (FU_lt (by omega)) (fun v hv => by omega)
  have h : X4_decode_L69 T FU 0 = some r := h
  rcases q with ⟨q1, q2⟩ | ⟨q1, q2⟩
  · exact Or.inl ⟨by rw [h, q1], q2⟩
  · exact Or.inr ⟨by rw [h, q1], q2⟩
theorem dec103 (hN : NX A n M T) (hw : Wf A) (hM : ∀ j, j < n → M j < 8) (hT : Tre n t) (h37 : ∀ k, k < n - 2 → rI T 37 k = nI (co n t k)) (h38 : ∀ v, v < 6 → rI T 38 v = nI (dgt (PZ n t 0) v)) : ∃ r, X4_decode_L103 FU 0 T = some r ∧ ((∃ T', r = .inl T' ∧ Un [38, 39, 40] T T' ∧ ∀ i, i < n - 1 → gdP A M n t i ∧ rI T' 39 i = nI (lea n t i) ∧ rI T' 40 i = nI (par n t i)) ∨ (∃ T', r = .inr (0, T') ∧ Un [38, 39, 40] T T' ∧ ∃ i, i < n - 1 ∧ ¬ gdP A M n t i)) := by
  have hn2 := hT.1
  have hn6 := hT.2.1
  have e1 : nI n - 1 = nI (n - 1) := pk_sub (b := 1) (by omega)
  have e2 : nI n - 2 = nI (n - 2) := pk_sub (b := 2) (by omega)
  exact forG (fun fu i (s : St) => X4_decode_L103 fu (nI i) s) (n - 1) (fun i s => Un [38, 39, 40] T s ∧ (i ≤ n - 2 → ∀ v, v < n → rI s 38 v = nI (dgt (PZ n t i) v)) ∧ ∀ k, k < i → gdP A M n t k ∧ rI s 39 k = nI (lea n t k) ∧ rI s 40 k = nI (par n t k)) (fun r => (∃ T', r = .inl T' ∧ Un [38, 39, 40] T T' ∧ ∀ i, i < n - 1 → gdP A M n t i ∧ rI T' 39 i = nI (lea n t i) ∧ rI T' 40 i = nI (par n t i)) ∨ (∃ T', r = .inr (0, T') ∧ Un [38, 39, 40] T T' ∧ ∃ i, i < n - 1 ∧ ¬ gdP A M n t i)) (fun fu s hp => ⟨.inl s, if_pos (by
      rw [(hp.1 35 (by decide)).1 0, hN.2.1, e1]
      exact nI_le (Nat.le_refl _) (by omega)), Or.inl ⟨s, rfl, hp.1, hp.2.2⟩⟩) (fun fu i s hi hp => by
    obtain ⟨p1, p2, p3⟩ := hp
    have p2 := p2 (by omega)
    obtain ⟨a1, a2, a3⟩ := tr_1 hT hi
    have d35 : rI s 35 0 = nI n := ((p1 35 (by decide)).1 0).trans hN.2.1
    obtain ⟨S1, eS1⟩ : ∃ S1, S1 = wI s 38 (lea n t i) 0 := ⟨_, rfl⟩
    obtain ⟨S2, eS2⟩ : ∃ S2, S2 = wI S1 39 i (nI (lea n t i)) := ⟨_, rfl⟩
    have k1 : X4_takeLeaf s = some (nI (lea n t i), S1) := by
      rw [eS1]
      exact takeLeaf_ok (f := dgt (PZ n t i)) d35 hn6 (fun v hv => ⟨p2 v hv, by have := dgt_lt (PZ n t i) v; omega⟩) a1 a2 (fun k hk => lea_min hk)
    have b35 : rI S2 35 0 = nI n := by rw [eS2, rI_wI_a (by decide), eS1, rI_wI_a (by decide)]; exact d35
    have f38 : ∀ v, v < n → rI S2 38 v = nI (if v = lea n t i then 0 else dgt (PZ n t i) v) := fun v hv => by
      rw [eS2, rI_wI_a (by decide), eS1, rI_wI]
      by_cases e : v = lea n t i
      · rw [if_pos ⟨rfl, e⟩, if_pos e]
        rfl
      · rw [if_neg (fun z => e z.2), if_neg e]
        exact p2 v hv
    have f37 : ∀ k, k < n - 2 → rI S2 37 k = nI (co n t k) := fun k hk => by
      rw [eS2, rI_wI_a (by decide), eS1, rI_wI_a (by decide), (p1 37 (by decide)).1]
      exact h37 k hk
    obtain ⟨S3, k2, k3, k4⟩ : ∃ S3, (if ((rI S2 35 0) - 2) ≤ nI i then (X4_takeLeaf S2).bind fun (x57, S58) => some (x57, S58) else (ldA S2 37 (nI i)).bind fun x59 => some (x59, S2)) = some (nI (par n t i), S3) ∧ Un [38] S2 S3 ∧ (i < n - 2 → S3 = S2) := by
      rw [b35, e2]
      by_cases hi2 : i < n - 2
      · refine ⟨S2, ?_, Un.rf _ _, fun _ => rfl⟩
        rw [if_neg (nI_ge hi2 (by omega)), par_co hi2]
        exact bd ((ldA_s S2 37 i rfl rfl (by show _ < 6; omega)).trans (congrArg some (f37 i hi2)))
      · have hi3 : i = n - 2 := by omega
        obtain ⟨c1, c2⟩ := tr_3 hT
        rw [← hi3] at c1 c2
        refine ⟨wI S2 38 (par n t i) 0, ?_, Un.wI _ _ _ _ (by simp), fun z => absurd z hi2⟩
        rw [if_pos (nI_le (by omega) (by omega))]
        refine bd (takeLeaf_ok (f := fun v => if v = lea n t i then 0 else dgt (PZ n t i) v) b35 hn6 (fun v hv => ⟨f38 v hv, ?_⟩) a3 ?_ (fun k hk => ?_))
        · have := dgt_lt (PZ n t i) v
          show (if v = lea n t i then 0 else dgt (PZ n t i) v) < 100
          split <;> omega
        · show (if par n t i = lea n t i then 0 else dgt (PZ n t i) (par n t i)) = 1
          rw [if_neg (by omega)]
          exact c2
        · show (if k = lea n t i then 0 else dgt (PZ n t i) k) ≠ 1
          by_cases e : k = lea n t i
          · rw [if_pos e]
            decide
          · rw [if_neg e]
            by_cases e3 : k < lea n t i
            · exact lea_min e3
            · rw [hi3] at hk e e3 ⊢
              exact par_min (by omega) hk
    obtain ⟨S4, eS4⟩ : ∃ S4, S4 = wI S3 40 i (nI (par n t i)) := ⟨_, rfl⟩
    obtain ⟨S5, eS5⟩ : ∃ S5, S5 = wI S4 38 (par n t i) (rI S4 38 (par n t i) - 1) := ⟨_, rfl⟩
    have u5 : Un [38, 39, 40] s S5 := by
      rw [eS5, eS4]
      refine Un.trs ?_ ((k3.mono (by simp)).trs ((Un.wI _ _ _ _ (by simp)).trs (Un.wI _ _ _ _ (by simp))))
      rw [eS2, eS1]
      exact (Un.wI _ _ _ _ (by simp)).trs (Un.wI _ _ _ _ (by simp))
    have n5 : NX A n M S5 := hN.un ((p1.trs u5).mono (by simp))
    have g39 : rI S5 39 i = nI (lea n t i) := by
      rw [eS5, rI_wI_a (by decide), eS4, rI_wI_a (by decide), (k3 39 (by decide)).1, eS2]
      exact rI_wI_s _ _ _ _
    have g40 : rI S5 40 i = nI (par n t i) := by
      rw [eS5, rI_wI_a (by decide), eS4]
      exact rI_wI_s _ _ _ _
    have w1 := (wire0 hw (hM _ a1) (hM _ a3)).1
    have w2 := (wire0 hw (hM _ a3) (hM _ a1)).1
    have e0 : X4_decode_L103 (fu + 1) (nI i) s = if nI (A.wire (M (lea n t i)) (M (par n t i))) = 0 then some (.inr (0, S5)) else if nI (A.wire (M (par n t i)) (M (lea n t i))) = 0 then some (.inr (0, S5)) else X4_decode_L103 fu (nI (i + 1)) S5 := by
      refine (if_neg (by rw [d35, e1]; exact nI_ge hi (by omega))).trans ?_
      refine (bd k1).trans ?_
      refine (bd ((stA_s S1 39 i _ rfl rfl (by show _ < 6; omega)).trans (congrArg some eS2.symm))).trans ?_
      refine (bd k2).trans ?_
      refine (bd ((stA_s S3 40 i _ rfl rfl (by show _ < 6; omega)).trans (congrArg some eS4.symm))).trans ?_
      refine (bd ((ldA_s S4 40 i rfl rfl (by show _ < 6; omega)).trans (congrArg some (show rI S4 40 i = nI (par n t i) by rw [eS4]; exact rI_wI_s _ _ _ _)))).trans ?_
      refine (bd (ldA_s S4 38 (par n t i) rfl rfl (by show _ < 6; omega))).trans ?_
      refine (bd ((stA_s S4 38 (par n t i) _ rfl rfl (by show _ < 6; omega)).trans (congrArg some eS5.symm))).trans ?_
      refine (bd ((ldA_s S5 39 i rfl rfl (by show _ < 6; omega)).trans (congrArg some g39))).trans ?_
      refine (bd ((ldA_s S5 40 i rfl rfl (by show _ < 6; omega)).trans (congrArg some g40))).trans ?_
      refine (bd (blinks_ok n5 hn6 hM a1 a3)).trans ?_
      have e3 : ((ldA S5 40 (nI i)).bind fun x49 => (ldA S5 39 (nI i)).bind fun x51 => (X4_blinksOf S5 x49 x51).bind fun x54 => if x54 = 0 then some (.inr (0, S5)) else X4_decode_L103 fu (nI i + 1) S5) = if nI (A.wire (M (par n t i)) (M (lea n t i))) = 0 then some (.inr (0, S5)) else X4_decode_L103 fu (nI (i + 1)) S5 := by
        refine (bd ((ldA_s S5 40 i rfl rfl (by show _ < 6; omega)).trans (congrArg some g40))).trans ?_
        refine (bd ((ldA_s S5 39 i rfl rfl (by show _ < 6; omega)).trans (congrArg some g39))).trans ?_
        refine (bd (blinks_ok n5 hn6 hM a3 a1)).trans ?_
        rw [nI_1]
      rw [e3]
    by_cases z1 : A.wire (M (lea n t i)) (M (par n t i)) = 0
    · left
      refine ⟨.inr (0, S5), ?_, Or.inr ⟨S5, rfl, p1.trs u5, i, hi, fun z => z.1 z1⟩⟩
      show X4_decode_L103 (fu + 1) (nI i) s = _
      rw [e0, if_pos (w1.mpr z1)]
    · by_cases z2 : A.wire (M (par n t i)) (M (lea n t i)) = 0
      · left
        refine ⟨.inr (0, S5), ?_, Or.inr ⟨S5, rfl, p1.trs u5, i, hi, fun z => z.2 z2⟩⟩
        show X4_decode_L103 (fu + 1) (nI i) s = _
        rw [e0, if_neg (fun z => z1 (w1.mp z)), if_pos (w2.mpr z2)]
      · right
        refine ⟨S5, ?_, p1.trs u5, fun hi4 v hv => ?_, fun k hk => ?_⟩
        · show X4_decode_L103 (fu + 1) (nI i) s = X4_decode_L103 fu (nI (i + 1)) S5
          rw [e0, if_neg (fun z => z1 (w1.mp z)), if_neg (fun z => z2 (w2.mp z))]
        · have hi2 : i < n - 2 := by omega
          obtain ⟨b1, b2⟩ := tr_2 hT hi2
          have hd := dgt_lt (PZ n t i) (par n t i)
          rw [PZ_s hT hi2 hv, eS5, rI_wI, eS4]
          have e4 : ∀ x, x < n → rI (wI S3 40 i (nI (par n t i))) 38 x = nI (if x = lea n t i then 0 else dgt (PZ n t i) x) := fun x hx => by
            rw [rI_wI_a (by decide), k4 hi2]
            exact f38 x hx
          by_cases e : v = par n t i
          · rw [if_pos ⟨rfl, e⟩, if_pos e, e4 _ a3, if_neg b1]
            exact pk_sub (b := 1) b2
          · rw [if_neg (fun z => e z.2), if_neg e]
            exact e4 v hv
        · by_cases e : k = i
          · rw [e]
            exact ⟨⟨z1, z2⟩, g39, g40⟩
          · obtain ⟨q1, q2, q3⟩ := p3 k (by omega)
            refine ⟨q1, ?_, ?_⟩
            · rw [eS5, rI_wI_a (by decide), eS4, rI_wI_a (by decide), (k3 39 (by decide)).1, eS2, rI_wI_k e, eS1, rI_wI_a (by decide)]
              exact q2
            · rw [eS5, rI_wI_a (by decide), eS4, rI_wI_k e, (k3 40 (by decide)).1, eS2, rI_wI_a (by decide), eS1, rI_wI_a (by decide)]
              exact q3) (n - 1) FU 0 T (by omega) (FU_lt (by omega)) ⟨Un.rf _ _, fun _ v hv => h38 v (by omega), fun k hk => by omega⟩
theorem decode_ok (hN : NX A n M T) (hw : Wf A) (hM : ∀ j, j < n → M j < 8) (hT : Tre n t) : ∃ T', Un [37, 38, 39, 40] T T' ∧ ((X4_decode T (nI t) = some (1, T') ∧ Good A M n t ∧ ∀ i, i < n - 1 → rI T' 39 i = nI (lea n t i) ∧ rI T' 40 i = nI (par n t i)) ∨ (X4_decode T (nI t) = some (0, T') ∧ ¬ Good A M n t)) := by
  have hn6 := hT.2.1
  obtain ⟨T1, a1, a2, a3⟩ := fill38 T
  have n1 : NX A n M T1 := hN.un (a2.mono (by simp))
  obtain ⟨T2, b1, b2, b3, b4⟩ := dec13 hT n1.2.1 a3
  have n2 : NX A n M T2 := n1.un (b2.mono (by simp))
  have u2 : Un [37, 38, 39, 40] T T2 := (a2.mono (by simp)).trs (b2.mono (by simp))
  have e0 : X4_decode T (nI t) = (X4_decode_L69 T2 FU 0).bind fun t => match t with
      | .inr (x67, S68) => some (x67, S68)
      | .inl _ => (X4_decode_L103 FU 0 T2).bind fun t => match t with
        | .inr (x64, S65) => some (x64, S65)
        | .inl S61 => some (1, S61) := by
    unfold X4_decode
    refine (bd a1).trans ?_
    exact (bd b1).trans rfl
  rcases dec69 n2 hw hn6 (P := PZ n t 0) (fun v hv => b4 v (by omega)) with ⟨c1, c2⟩ | ⟨c1, c2⟩
  · obtain ⟨r, d1, d2⟩ := dec103 n2 hw hM hT b3 b4
    rcases d2 with ⟨T3, rfl, u3, d3⟩ | ⟨T3, rfl, u3, i, hi, d3⟩
    · refine ⟨T3, u2.trs (u3.mono (by simp)), Or.inl ⟨?_, ⟨c2, fun i hi => (d3 i hi).1⟩, fun i hi => (d3 i hi).2⟩⟩
      rw [e0]
      refine (bd c1).trans ?_
      exact bd d1
    · refine ⟨T3, u2.trs (u3.mono (by simp)), Or.inr ⟨?_, fun z => d3 (z.2 i hi)⟩⟩
      rw [e0]
      refine (bd c1).trans ?_
      exact bd d1
  · refine ⟨T2, u2, Or.inr ⟨?_, fun z => c2 z.1⟩⟩
    rw [e0]
    exact bd c1
end NC
