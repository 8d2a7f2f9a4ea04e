/-! nets: the rooms that are not cut; the class's least wait -/
/-- how many of the first k rooms are not cut; the one that is the j-th of them -/
def cn (A : Ch) : Nat → Nat
  | 0 => 0
  | k + 1 => cn A k + if uc A k = true then 1 else 0
def mbr (A : Ch) : Nat → Nat → Nat
  | 0, _ => 0
  | k + 1, j => if uc A k = true ∧ j = cn A k then k else mbr A k j
theorem cn_y {A : Ch} {k : Nat} (h : ¬ A.val k 0 = 5) : cn A (k + 1) = cn A k + 1 := by
  show cn A k + (if uc A k = true then 1 else 0) = _
  rw [if_pos (by simp [h])]
theorem cn_n {A : Ch} {k : Nat} (h : A.val k 0 = 5) : cn A (k + 1) = cn A k := by
  show cn A k + (if uc A k = true then 1 else 0) = _
  rw [if_neg (by simp [h])]
  rfl
theorem mbr_y {A : Ch} {k : Nat} (h : ¬ A.val k 0 = 5) (j : Nat) : mbr A (k + 1) j = if j = cn A k then k else mbr A k j := by
  show (if uc A k = true ∧ j = cn A k then k else mbr A k j) = _
  by_cases e : j = cn A k
  · rw [if_pos ⟨by simp [h], e⟩, if_pos e]
  · rw [if_neg (fun z => e z.2), if_neg e]
theorem mbr_n {A : Ch} {k : Nat} (h : A.val k 0 = 5) (j : Nat) : mbr A (k + 1) j = mbr A k j := by
  show (if uc A k = true ∧ j = cn A k then k else mbr A k j) = _
  rw [if_neg (fun z => by simp [h] at z)]
theorem cn_le (A : Ch) : ∀ k, cn A k ≤ k
  | 0 => Nat.le_refl 0
  | k + 1 => by
    have := cn_le A k
    by_cases h : A.val k 0 = 5
    · rw [cn_n h]; omega
    · rw [cn_y h]; omega
theorem cn_up (A : Ch) (k : Nat) : ∀ c, cn A k ≤ cn A (k + c)
  | 0 => Nat.le_refl _
  | c + 1 => by
    have := cn_up A k c
    show cn A k ≤ cn A (k + c + 1)
    by_cases h : A.val (k + c) 0 = 5
    · rw [cn_n h]; exact this
    · rw [cn_y h]; omega
theorem mbr_b (A : Ch) : ∀ k, k ≤ 8 → ∀ j, mbr A k j < 8
  | 0, _, _ => by show 0 < 8; decide
  | k + 1, hk, j => by
    have ih := mbr_b A k (by omega) j
    by_cases h : A.val k 0 = 5
    · rw [mbr_n h]; exact ih
    · rw [mbr_y h]
      split <;> omega
theorem mbr_up (A : Ch) {k j : Nat} (h : j < cn A k) : ∀ c, mbr A (k + c) j = mbr A k j
  | 0 => rfl
  | c + 1 => by
    have ih := mbr_up A h c
    have hu := cn_up A k c
    show mbr A (k + c + 1) j = _
    by_cases e : A.val (k + c) 0 = 5
    · rw [mbr_n e]; exact ih
    · rw [mbr_y e, if_neg (by omega)]; exact ih
theorem pop_add {k l : Nat} (hk : k < 8) (hl : l < 2 ^ k) : pop (l + 2 ^ k) = pop l + 1 := by
  have key : (List.range 8).all (fun k => (List.range (2 ^ k)).all (fun l => decide (pop (l + 2 ^ k) = pop l + 1))) = true := by decide +kernel
  exact of_decide_eq_true (List.all_eq_true.mp (List.all_eq_true.mp key k (List.mem_range.mpr hk)) l (List.mem_range.mpr hl))
theorem pop_uc (A : Ch) : ∀ k, k ≤ 8 → pop (mask (uc A) k) = cn A k
  | 0, _ => by show pop 0 = 0; decide +kernel
  | k + 1, hk => by
    have ih := pop_uc A k (by omega)
    show pop (mask (uc A) k + if uc A k = true then 2 ^ k else 0) = cn A k + if uc A k = true then 1 else 0
    by_cases h : uc A k = true
    · rw [if_pos h, if_pos h, pop_add (by omega) (mask_lt _ _), ih]
    · rw [if_neg h, if_neg h]
      exact ih
section GA
variable {S : St} {A : Ch}
theorem gather_ok (hx : HX S 1 A) (hw : Wf A) (h6 : cn A A.n ≤ 6) : ∃ T, X4_gather S = some T ∧ Un [35, 36] S T ∧ NX A (cn A A.n) (mbr A A.n) T := by
  have hn := hw.1
  obtain ⟨T, hT, q1, q2, q3⟩ := forG (fun fu k (s : St) => X4_gather_L7 fu (nI k) s) A.n (fun k s => Un [35, 36] S s ∧ rI s 35 0 = nI (cn A k) ∧ ∀ j, j < cn A k → rI s 36 j = nI (mbr A k j)) (fun s => Un [35, 36] S s ∧ rI s 35 0 = nI (cn A A.n) ∧ ∀ j, j < cn A A.n → rI s 36 j = nI (mbr A A.n j)) (fun fu s hp => ⟨s, if_pos (xle (hx.un hp.1 (fun k hk => by simp <;> omega)) hw), hp⟩) (fun fu k s hk hp => by
    obtain ⟨p1, p2, p3⟩ := hp
    have hxs : HX s 1 A := hx.un p1 (fun k hk => by simp <;> omega)
    have hcl := cn_le A k
    have hup := cn_up A k (A.n - k)
    rw [show k + (A.n - k) = A.n by omega] at hup
    by_cases hc : 6 ≤ cn A k
    · left
      refine ⟨s, ?_, p1, ?_, fun j hj => ?_⟩
      · show X4_gather_L7 (fu + 1) (nI k) s = _
        refine (if_neg (xnle hxs hw hk)).trans ?_
        exact if_pos (by rw [p2]; exact nI_le (a := 6) hc (by omega))
      · rw [p2, show cn A k = cn A A.n by omega]
      · have e := mbr_up A (k := k) (j := j) (by omega) (A.n - k)
        rw [show k + (A.n - k) = A.n by omega] at e
        rw [e]
        exact p3 j (by omega)
    · right
      have e0 : X4_gather_L7 (fu + 1) (nI k) s = (X6_isCut s (nI k)).bind fun x6 =>
        (if x6 = 0 then
        (stA s 36 (rI s 35 0) (nI k)).bind fun S11 =>
          (stF S11 35 0 ((rI S11 35 0) + 1)).bind fun S13 =>
          some S13
        else
        some s).bind fun S8 =>
        X4_gather_L7 fu (nI k + 1) S8 := by
        refine (if_neg (xnle hxs hw hk)).trans ?_
        exact if_neg (by rw [p2]; exact nI_ge (b := 6) (by omega) (by decide))
      by_cases h : A.val k 0 = 5
      · refine ⟨s, ?_, p1, by rw [cn_n h]; exact p2, fun j hj => ?_⟩
        · show X4_gather_L7 (fu + 1) (nI k) s = X4_gather_L7 fu (nI (k + 1)) s
          rw [e0]
          refine (bd ((isCut_ok hxs hw hk).trans (congrArg some (if_pos h)))).trans ?_
          rw [← nI_1]
          rfl
        · rw [cn_n h] at hj
          rw [mbr_n h]
          exact p3 j hj
      · refine ⟨wI (wI s 36 (cn A k) (nI k)) 35 0 (nI (cn A k + 1)), ?_, p1.trs ((Un.wI _ _ _ _ (by simp)).trs (Un.wI _ _ _ _ (by simp))), ?_, fun j hj => ?_⟩
        · show X4_gather_L7 (fu + 1) (nI k) s = X4_gather_L7 fu (nI (k + 1)) _
          rw [e0]
          refine (bd ((isCut_ok hxs hw hk).trans (congrArg some (if_neg h)))).trans ?_
          refine (bd (a := wI (wI s 36 (cn A k) (nI k)) 35 0 (nI (cn A k + 1))) ?_).trans (by rw [← nI_1 k])
          refine (if_pos rfl).trans ?_
          refine (bd (stA_s s 36 (cn A k) _ rfl p2 (by show _ < 6; omega))).trans ?_
          have e35 : rI (wI s 36 (cn A k) (nI k)) 35 0 + 1 = nI (cn A k + 1) := by
            rw [rI_wI_a (by decide), p2, nI_1]
          rw [e35]
          rfl
        · rw [cn_y h]
          exact rI_wI_s _ _ _ _
        · rw [cn_y h] at hj
          rw [mbr_y h, rI_wI_a (by decide), rI_wI]
          by_cases e : j = cn A k
          · rw [if_pos ⟨rfl, e⟩, if_pos e]
          · rw [if_neg (fun z => e z.2), if_neg e]
            exact p3 j (by omega)) A.n FU 0 (wI S 35 0 0) (by omega) (FU_lt (by omega)) ⟨Un.wI _ _ _ _ (by simp), rI_wI_s _ _ _ _, fun j hj => absurd hj (Nat.not_lt_zero j)⟩
  refine ⟨T, ?_, q1, hx.un q1 (fun k hk => by simp <;> omega), q2, q3⟩
  unfold X4_gather
  refine (bd (rfl : stF S 35 0 0 = some (wI S 35 0 0))).trans ?_
  exact bd hT
end GA
/-- the wait of tree t; the best of the first k trees -/
def Wt (A : Ch) (M : Nat → Nat) (n t : Nat) (v : Int32) : Prop := (v = -4 ∧ ¬ Good A M n t) ∨ (Good A M n t ∧ ∃ g, v = nI g ∧ g ≤ 2000 ∧ MX A M n t (n - 1) g)
def bst (b v : Int32) : Int32 := if v < 0 then b else if b < 0 then v else if b ≤ v then b else v
def Bs (A : Ch) (M : Nat → Nat) (n : Nat) : Nat → Int32 → Prop
  | 0, b => b = -4
  | k + 1, b => ∃ b' v, Bs A M n k b' ∧ Wt A M n k v ∧ b = bst b' v
section BS
variable {A : Ch} {n t : Nat} {M : Nat → Nat} {T : St}
theorem Wt.u {v v' : Int32} (h : Wt A M n t v) (h' : Wt A M n t v') : v = v' := by
  rcases h with ⟨e, g⟩ | ⟨g, w, e, -, m⟩
  · rcases h' with ⟨e', g'⟩ | ⟨g', -⟩
    · rw [e, e']
    · exact absurd g' g
  · rcases h' with ⟨e', g'⟩ | ⟨g', w', e', -, m'⟩
    · exact absurd g g'
    · rw [e, e', m.u m']
theorem Bs.u : ∀ k b b', Bs A M n k b → Bs A M n k b' → b = b'
  | 0, b, b', h, h' => by
    have h : b = -4 := h
    have h' : b' = -4 := h'
    rw [h, h']
  | k + 1, b, b', h, h' => by
    obtain ⟨c, v, h1, h2, h3⟩ := h
    obtain ⟨c', v', h1', h2', h3'⟩ := h'
    rw [h3, h3', Bs.u k c c' h1 h1', h2.u h2']
theorem Bs.r : ∀ k b, Bs A M n k b → b = -4 ∨ ∃ g, b = nI g ∧ g ≤ 2000
  | 0, b, h => Or.inl h
  | k + 1, b, h => by
    obtain ⟨c, v, h1, h2, h3⟩ := h
    have ih := Bs.r k c h1
    have hv : v = -4 ∨ ∃ g, v = nI g ∧ g ≤ 2000 := by
      rcases h2 with ⟨e, -⟩ | ⟨-, g, e, hg, -⟩
      · exact Or.inl e
      · exact Or.inr ⟨g, e, hg⟩
    rw [h3]
    unfold bst
    split
    · exact ih
    · split
      · exact hv
      · split
        · exact ih
        · exact hv
theorem m4_lt : (-4 : Int32) < 0 := by decide
theorem nI_n4 {g : Nat} (hg : g ≤ 2000) : ¬ nI g = -4 := fun z => by
  have := nI_pos (n := g) (by omega)
  rw [z] at this
  exact this m4_lt
theorem least_loop (hw : Wf A) (h2 : 2 ≤ n) (h6 : n ≤ 6) (hM : ∀ j, j < n → M j < 8) (hN : NX A n M T) : ∃ b T', X4_leastWait_L38 (nI (n ^ (n - 2))) FU (-4) 0 T = some (b, T') ∧ Un [37, 38, 39, 40, 41] T T' ∧ Bs A M n (n ^ (n - 2)) b := by
  have hp := pw_b h2 h6
  obtain ⟨N, eN⟩ : ∃ N, N = n ^ (n - 2) := ⟨_, rfl⟩
  rw [← eN] at hp ⊢
  obtain ⟨r, hr, q⟩ := forG (fun fu k (s : Int32 × St) => X4_leastWait_L38 (nI N) fu s.1 (nI k) s.2) N (fun k s => Un [37, 38, 39, 40, 41] T s.2 ∧ Bs A M n k s.1) (fun r => Un [37, 38, 39, 40, 41] T r.2 ∧ Bs A M n N r.1) (fun fu s hp => ⟨(s.1, s.2), if_pos (nI_le (Nat.le_refl _) (by omega)), hp⟩) (fun fu k s hk hq => by
    obtain ⟨q1, q2⟩ := hq
    have hNs : NX A n M s.2 := hN.un q1
    have hT : Tre n k := ⟨h2, h6, by rw [← eN]; exact hk⟩
    have e0 : X4_leastWait_L38 (nI N) (fu + 1) s.1 (nI k) s.2 = (X4_decode s.2 (nI k)).bind fun (x8, S9) =>
      (if x8 = 0 then
      some (s.1, S9)
      else
      (X4_greatestWait S9 ).bind fun (x16, S17) =>
        (if s.1 = (-4) then
        some x16
        else
        some (if x16 < s.1 then x16 else s.1)).bind fun x19 =>
        some (x19, S17)).bind fun (x11, S12) =>
      X4_leastWait_L38 (nI N) fu x11 (nI k + 1) S12 := if_neg (nI_ge hk (by omega))
    right
    obtain ⟨T1, u1, ⟨d1, d2, d3⟩ | ⟨d1, d2⟩⟩ := decode_ok hNs hw hM hT
    · have hN1 : NX A n M T1 := hNs.un (u1.mono (by simp))
      obtain ⟨g, T2, g1, g2, g3⟩ := greatest_ok hN1 hw hM hT d3
      have hg := g3.b hw hM hT (Nat.le_refl _)
      refine ⟨(bst s.1 (nI g), T2), ?_, q1.trs ((u1.mono (by simp)).trs (g2.mono (by simp))), s.1, nI g, q2, Or.inr ⟨d2, g, rfl, hg, g3⟩, rfl⟩
      show X4_leastWait_L38 (nI N) (fu + 1) s.1 (nI k) s.2 = X4_leastWait_L38 (nI N) fu (bst s.1 (nI g)) (nI (k + 1)) T2
      rw [e0]
      refine (bd d1).trans ?_
      refine (bd (a := (bst s.1 (nI g), T2)) ?_).trans (by rw [← nI_1 k])
      refine (if_neg (by decide)).trans ?_
      refine (bd g1).trans ?_
      refine (bd (a := bst s.1 (nI g)) ?_).trans rfl
      unfold bst
      rw [if_neg (nI_pos (n := g) (by omega))]
      rcases q2.r with z | ⟨b, z, hb⟩
      · rw [z, if_pos rfl, if_pos m4_lt]
      · rw [z, if_neg (nI_n4 hb), if_neg (nI_pos (by omega))]
        by_cases hlt : g < b
        · rw [if_pos (nI_lt hlt (by omega)), if_neg (nI_ge hlt (by omega))]
        · rw [if_neg (nI_nlt (by omega) (by omega)), if_pos (nI_le (by omega) (by omega))]
    · refine ⟨(s.1, T1), ?_, q1.trs (u1.mono (by simp)), s.1, -4, q2, Or.inl ⟨rfl, d2⟩, ?_⟩
      · show X4_leastWait_L38 (nI N) (fu + 1) s.1 (nI k) s.2 = X4_leastWait_L38 (nI N) fu s.1 (nI (k + 1)) T1
        rw [e0]
        refine (bd d1).trans ?_
        refine (bd (a := (s.1, T1)) (if_pos rfl)).trans (by rw [← nI_1 k])
      · unfold bst
        rw [if_pos m4_lt]) N FU 0 (-4, T) (by omega) (FU_lt (by omega)) ⟨Un.rf _ _, rfl⟩
  exact ⟨r.1, r.2, hr, q⟩
theorem least_ok {S : St} (hx : HX S 1 A) (hw : Wf A) (h2 : 2 ≤ cn A A.n) (h6 : cn A A.n ≤ 6) : ∃ b T, X4_leastWait S = some (b, T) ∧ Un [35, 36, 37, 38, 39, 40, 41] S T ∧ Bs A (mbr A A.n) (cn A A.n) (cn A A.n ^ (cn A A.n - 2)) b := by
  have hn := hw.1
  obtain ⟨T1, a1, a2, a3⟩ := gather_ok hx hw h6
  obtain ⟨n, en⟩ : ∃ n, n = cn A A.n := ⟨_, rfl⟩
  rw [← en] at h2 h6 a3 ⊢
  have hp := pw_b h2 h6
  have e2 : nI n - 2 = nI (n - 2) := pk_sub (b := 2) (by omega)
  have hM : ∀ j, j < n → mbr A A.n j < 8 := fun j _ => mbr_b A A.n hn j
  obtain ⟨x, hx1, ex⟩ := forG (fun fu k (s : Int32) => X4_leastWait_L9 T1 fu s (nI k)) (n - 2) (fun k s => s = nI (n ^ k)) (fun r => r = nI (n ^ (n - 2))) (fun fu s hp => ⟨s, if_pos (by rw [a3.2.1, e2]; exact nI_le (Nat.le_refl _) (by omega)), hp⟩) (fun fu k s hk hp => by
    right
    refine ⟨nI (n ^ (k + 1)), ?_, rfl⟩
    show X4_leastWait_L9 T1 (fu + 1) s (nI k) = X4_leastWait_L9 T1 fu (nI (n ^ (k + 1))) (nI (k + 1))
    refine (if_neg (by rw [a3.2.1, e2]; exact nI_ge hk (by omega))).trans ?_
    rw [a3.2.1, hp, pk_mul, ← Nat.pow_succ, nI_1]) (n - 2) FU 0 1 (by omega) (FU_lt (by omega)) (by show (1 : Int32) = nI (n ^ 0); rw [Nat.pow_zero]; rfl)
  obtain ⟨b, T, c1, c2, c3⟩ := least_loop hw h2 h6 hM a3
  refine ⟨b, T, ?_, (a2.mono (by simp)).trs (c2.mono (by simp)), c3⟩
  unfold X4_leastWait
  refine (bd a1).trans ?_
  refine (bd hx1).trans ?_
  rw [ex]
  exact bd c1
end BS
