/-! nets: the reference's best; the call -/
section NE
variable {A : Ch} {n t : Nat} {M : Nat → Nat} {T : St}
theorem mbest (hw : Wf A) (h2 : 2 ≤ n) (h6 : n ≤ 6) (hM : ∀ j, j < n → M j < 8) (hN : NM A n M T) : ∃ r, X11_net_L122 (nI n) (nI (n ^ (n - 2))) FU (-4) 0 T = some r ∧ Un [70, 71, 72, 73] T r.2 ∧ Bs A M n (n ^ (n - 2)) r.1 := by
  have hp := pw_b h2 h6
  obtain ⟨N, eN⟩ : ∃ N, N = n ^ (n - 2) := ⟨_, rfl⟩
  rw [← eN] at hp ⊢
  exact forG (fun fu k (s : Int32 × St) => X11_net_L122 (nI n) (nI N) fu s.1 (nI k) s.2) N (fun k s => Un [70, 71, 72, 73] T s.2 ∧ Bs A M n k s.1) (fun r => Un [70, 71, 72, 73] T r.2 ∧ Bs A M n N r.1) (fun fu s hp => ⟨(s.1, s.2), if_pos (nI_le (Nat.le_refl _) (by omega)), hp⟩) (fun fu k s hk hq => by
    obtain ⟨b, S⟩ := s
    obtain ⟨q1, q2⟩ := hq
    have q1 : Un [70, 71, 72, 73] T S := q1
    have q2 : Bs A M n k b := q2
    have hT : Tre n k := ⟨h2, h6, by rw [← eN]; exact hk⟩
    obtain ⟨S1, a1, a2, a3⟩ := code_ok (T := S) hT (nI N) b (nI k)
    have hN1 : NM A n M S1 := hN.un (q1.trs (a2.mono (by simp)))
    obtain ⟨x, S2, b1, b2, b3, b4⟩ := parts_ok hN1.1 hw hT a3
    have hN2 : NM A n M S2 := hN1.un (b2.mono (by simp))
    obtain ⟨v, S3, c1, c2, c3⟩ : ∃ v S3, (if x = 0 then some ((-4 : Int32), S2) else (X11_waitOf S2 (nI n)).bind fun (x60, S61) => some (x60, S61)) = some (v, S3) ∧ Un [73] S2 S3 ∧ Wt A M n k v := by
      rcases b4 with ⟨rfl, d1⟩ | ⟨rfl, d1⟩
      · obtain ⟨v, S3, e1, e2, e3⟩ := wait_ok hN2 hw hM hT b3
        refine ⟨v, S3, ?_, e2, ?_⟩
        · refine (if_neg (by decide)).trans ?_
          exact bd e1
        · rcases e3 with ⟨e4, i, hi, e5⟩ | ⟨e4, g, e5, e6⟩
          · exact Or.inl ⟨e4, fun z => e5 (z.2 i hi)⟩
          · exact Or.inr ⟨⟨d1, e4⟩, g, e5, e6.b hw hM hT (Nat.le_refl _), e6⟩
      · exact ⟨-4, S2, if_pos rfl, Un.rf _ _, Or.inl ⟨rfl, fun z => d1 z.1⟩⟩
    right
    refine ⟨(bst b v, S3), ?_, q1.trs ((a2.mono (by simp)).trs ((b2.mono (by simp)).trs (c2.mono (by simp)))), b, v, q2, c3, rfl⟩
    show X11_net_L122 (nI n) (nI N) (fu + 1) b (nI k) S = X11_net_L122 (nI n) (nI N) fu (bst b v) (nI (k + 1)) S3
    refine (if_neg (nI_ge hk (by omega))).trans ?_
    refine (bd a1).trans ?_
    refine (bd b1).trans ?_
    refine (bd c1).trans ?_
    refine (bd (a := bst b v) ?_).trans (by rw [nI_1])
    unfold bst
    by_cases z1 : v < 0
    · rw [if_pos z1, if_pos z1]
    · rw [if_neg z1, if_neg z1]
      by_cases z2 : b < 0
      · rw [if_pos z2, if_pos z2]
      · rw [if_neg z2, if_neg z2]
        exact some_if) N FU 0 (-4, T) (by omega) (FU_lt (by omega)) ⟨Un.rf _ _, rfl⟩
theorem mcut (hm : HM T 61 0 62 0 A) (hw : Wf A) (v1 : Int32) : X11_net_L6 T v1 FU 0 0 = some (nI (A.n - cn A A.n)) := by
  have hn := hw.1
  obtain ⟨r, h, e⟩ := forG (fun fu k (s : Int32) => X11_net_L6 T v1 fu s (nI k)) A.n (fun k s => s = nI (k - cn A k)) (fun r => r = nI (A.n - cn A A.n)) (fun fu s hp => ⟨s, (bd (rooms_ok hm)).trans (if_pos (mle hw)), hp⟩) (fun fu k s hk hp => by
    right
    have hp : s = nI (k - cn A k) := hp
    have hc := cn_le A k
    refine ⟨nI (k + 1 - cn A (k + 1)), ?_, rfl⟩
    show X11_net_L6 T v1 (fu + 1) s (nI k) = X11_net_L6 T v1 fu (nI (k + 1 - cn A (k + 1))) (nI (k + 1))
    refine (bd (rooms_ok hm)).trans ?_
    refine (if_neg (mnle hw hk)).trans ?_
    by_cases h : A.val k 0 = 5
    · refine (bd ((misCut_ok hm hw hk).trans (congrArg some (if_pos h)))).trans ?_
      refine (bd (a := (1 : Int32)) (if_neg (by decide))).trans ?_
      rw [cn_n h, hp, nI_1, nI_1, show k - cn A k + 1 = k + 1 - cn A k by omega]
    · refine (bd ((misCut_ok hm hw hk).trans (congrArg some (if_neg h)))).trans ?_
      refine (bd (a := (0 : Int32)) (if_pos rfl)).trans ?_
      rw [cn_y h, hp, nI_1, show k + 1 - (cn A k + 1) = k - cn A k by omega, Int32.add_zero]) A.n FU 0 0 (by omega) (FU_lt (by omega)) (by show (0 : Int32) = nI (0 - 0); rfl)
  rw [← e]
  exact h
theorem mhere (hm : HM T 61 0 62 0 A) (hw : Wf A) (h6 : cn A A.n ≤ 6) : ∃ r, X11_net_L60 FU 0 0 T = some r ∧ r.1 = nI (cn A A.n) ∧ Un [69] T r.2 ∧ ∀ j, j < cn A A.n → rI r.2 69 j = nI (mbr A A.n j) := by
  have hn := hw.1
  exact forG (fun fu k (s : Int32 × St) => X11_net_L60 fu s.1 (nI k) s.2) A.n (fun k r => r.1 = nI (cn A k) ∧ Un [69] T r.2 ∧ ∀ j, j < cn A k → rI r.2 69 j = nI (mbr A k j)) (fun r => r.1 = nI (cn A A.n) ∧ Un [69] T r.2 ∧ ∀ j, j < cn A A.n → rI r.2 69 j = nI (mbr A A.n j)) (fun fu s hp => ⟨(s.1, s.2), (bd (rooms_ok (hm.un hp.2.1 (by decide) (by decide)))).trans (if_pos (mle hw)), hp⟩) (fun fu k s hk hp => by
    obtain ⟨c, S⟩ := s
    obtain ⟨p1, p2, p3⟩ := hp
    have p1 : c = nI (cn A k) := p1
    have p2 : Un [69] T S := p2
    have p3 : ∀ j, j < cn A k → rI S 69 j = nI (mbr A k j) := p3
    subst p1
    have hmS : HM S 61 0 62 0 A := hm.un p2 (by decide) (by decide)
    right
    by_cases h : A.val k 0 = 5
    · refine ⟨(nI (cn A k), S), ?_, by rw [cn_n h], p2, fun j hj => ?_⟩
      · show X11_net_L60 (fu + 1) (nI (cn A k)) (nI k) S = X11_net_L60 fu (nI (cn A k)) (nI (k + 1)) S
        refine (bd (rooms_ok hmS)).trans ?_
        refine (if_neg (mnle hw hk)).trans ?_
        refine (bd ((misCut_ok hmS hw hk).trans (congrArg some (if_pos h)))).trans ?_
        refine (bd (a := (nI (cn A k), S)) (if_neg (by decide))).trans (by rw [← nI_1 k])
      · rw [cn_n h] at hj
        rw [mbr_n h]
        exact p3 j hj
    · have hup := cn_up A (k + 1) (A.n - (k + 1))
      rw [show k + 1 + (A.n - (k + 1)) = A.n by omega, cn_y h] at hup
      refine ⟨(nI (cn A k + 1), wI S 69 (cn A k) (nI k)), ?_, by rw [cn_y h], p2.trs (Un.wI _ _ _ _ (by simp)), fun j hj => ?_⟩
      · show X11_net_L60 (fu + 1) (nI (cn A k)) (nI k) S = X11_net_L60 fu (nI (cn A k + 1)) (nI (k + 1)) (wI S 69 (cn A k) (nI k))
        refine (bd (rooms_ok hmS)).trans ?_
        refine (if_neg (mnle hw hk)).trans ?_
        refine (bd ((misCut_ok hmS hw hk).trans (congrArg some (if_neg h)))).trans ?_
        refine (bd (a := (nI (cn A k + 1), wI S 69 (cn A k) (nI k))) ?_).trans (by rw [← nI_1 k])
        refine (if_pos rfl).trans ?_
        refine (bd (stA_s S 69 (cn A k) _ rfl rfl (by show _ < 6; omega))).trans ?_
        rw [nI_1]
      · rw [cn_y h] at hj
        show rI (wI S 69 (cn A k) (nI k)) 69 j = _
        rw [mbr_y h, rI_wI]
        by_cases e : j = cn A k
        · rw [if_pos ⟨rfl, e⟩, if_pos e]
        · rw [if_neg (fun z => e z.2), if_neg e]
          exact p3 j (by omega)) A.n FU 0 (0, T) (by omega) (FU_lt (by omega)) ⟨rfl, Un.rf _ _, fun j hj => absurd hj (Nat.not_lt_zero j)⟩
theorem mnet (hm : HM T 61 0 62 0 A) (hw : Wf A) : ∃ b T', X11_net T = some (b, T') ∧ Un [69, 70, 71, 72, 73] T T' ∧ ((2 ≤ cn A A.n ∧ cn A A.n ≤ 6) ∧ Bs A (mbr A A.n) (cn A A.n) (cn A A.n ^ (cn A A.n - 2)) b ∨ ¬ (2 ≤ cn A A.n ∧ cn A A.n ≤ 6) ∧ b = -2) := by
  have hn := hw.1
  have hc := cn_le A A.n
  have e0 : X11_net T = if (2 : Int) ≤ (nI (cn A A.n)).toInt ∧ (nI (cn A A.n)).toInt ≤ 6 then (X11_net_L60 FU 0 0 T).bind fun (x29, S30) => (X11_net_L97 S30 x29 FU 1 0).bind fun x33 => (X11_net_L122 x29 x33 FU (-4) 0 S30).bind fun (x63, S64) => some (x63, S64) else some (-2, T) := by
    unfold X11_net
    refine (bd (mcut hm hw 0)).trans ?_
    refine (bd (rooms_ok hm)).trans ?_
    have e1 : nI A.n - nI (A.n - cn A A.n) = nI (cn A A.n) := by
      rw [pk_sub (by omega), show A.n - (A.n - cn A A.n) = cn A A.n by omega]
    rw [e1]
    exact md T (nI (cn A A.n)) 2 6 2 6
  rw [nT (by omega)] at e0
  by_cases h : 2 ≤ cn A A.n ∧ cn A A.n ≤ 6
  · rw [if_pos (by omega)] at e0
    obtain ⟨⟨r1, S1⟩, a1, a2, a3, a4⟩ := mhere hm hw h.2
    have a2 : r1 = nI (cn A A.n) := a2
    have a3 : Un [69] T S1 := a3
    have a4 : ∀ j, j < cn A A.n → rI S1 69 j = nI (mbr A A.n j) := a4
    subst a2
    obtain ⟨n, en⟩ : ∃ n, n = cn A A.n := ⟨_, rfl⟩
    rw [← en] at h a1 a4 ⊢
    have hp := pw_b h.1 h.2
    have e2 : nI n - 2 = nI (n - 2) := pk_sub (b := 2) (by omega)
    obtain ⟨x, hx1, ex⟩ := forG (fun fu k (s : Int32) => X11_net_L97 S1 (nI n) fu s (nI k)) (n - 2) (fun k s => s = nI (n ^ k)) (fun r => r = nI (n ^ (n - 2))) (fun fu s hp => ⟨s, if_pos (by rw [e2]; exact nI_le (Nat.le_refl _) (by omega)), hp⟩) (fun fu k s hk hp => by
      right
      refine ⟨nI (n ^ (k + 1)), ?_, rfl⟩
      show X11_net_L97 S1 (nI n) (fu + 1) s (nI k) = X11_net_L97 S1 (nI n) fu (nI (n ^ (k + 1))) (nI (k + 1))
      refine (if_neg (by rw [e2]; exact nI_ge hk (by omega))).trans ?_
      rw [hp, pk_mul, ← Nat.pow_succ, nI_1]) (n - 2) FU 0 1 (by omega) (FU_lt (by omega)) (by show (1 : Int32) = nI (n ^ 0); rw [Nat.pow_zero]; rfl)
    obtain ⟨⟨b, S2⟩, b1, b2, b3⟩ := mbest hw h.1 h.2 (fun j _ => mbr_b A A.n hn j) (show NM A n (mbr A A.n) S1 from ⟨hm.un a3 (by decide) (by decide), a4⟩)
    have b2 : Un [70, 71, 72, 73] S1 S2 := b2
    refine ⟨b, S2, ?_, (a3.mono (by simp)).trs (b2.mono (by simp)), Or.inl ⟨h, b3⟩⟩
    rw [e0]
    refine (bd a1).trans ?_
    refine (bd hx1).trans ?_
    rw [ex]
    exact bd b1
  · rw [if_neg (by omega)] at e0
    exact ⟨-2, T, e0, Un.rf _ _, Or.inr ⟨h, rfl⟩⟩
theorem st_net : ∀ (S : St) , Inv S → ∃ (r : Int32) (S1 : St) (S2 : St), X10_net S  = some (r, S1) ∧ X11_net S1  = some (r, S2) ∧ Inv S2 := by
  intro S hI
  obtain ⟨⟨A, hw, hx, hm⟩, -⟩ := id hI
  have hn := hw.1
  have hc := cn_le A A.n
  have e0 : X10_net S = if (2 : Int) ≤ (nI (cn A A.n)).toInt ∧ (nI (cn A A.n)).toInt ≤ 6 then (X4_leastWait S).bind fun (x8, S9) => some (x8, S9) else some (-2, S) := by
    unfold X10_net
    refine (bd (uncut_ok hx hw)).trans ?_
    refine (bd ((bc_ok S (mask8 _ hn)).trans (congrArg (fun z => some (nI z)) (pop_uc A A.n hn)))).trans ?_
    exact gd (nI (cn A A.n)) 2 6 2 6
  rw [nT (by omega)] at e0
  by_cases h : 2 ≤ cn A A.n ∧ cn A A.n ≤ 6
  · rw [if_pos (by omega)] at e0
    obtain ⟨b, S1, a1, a2, a3⟩ := least_ok hx hw h.1 h.2
    have hm1 : HM S1 61 0 62 0 A := hm.un a2 (by decide) (by decide)
    obtain ⟨b', S2, c1, c2, c3⟩ := mnet hm1 hw
    rcases c3 with ⟨-, c3⟩ | ⟨c3, -⟩
    · have eb : b' = b := Bs.u _ _ _ c3 a3
      subst eb
      have hu : Un [35, 36, 37, 38, 39, 40, 41, 69, 70, 71, 72, 73] S S2 := (a2.mono (by simp)).trs (c2.mono (by simp))
      exact ⟨b', S1, S2, e0.trans (bd a1), c1, hI.a hu (by decide) hw (hx.un hu (fun k hk => by simp <;> omega)) (hm.un hu (by decide) (by decide))⟩
    · exact absurd h c3
  · rw [if_neg (by omega)] at e0
    obtain ⟨b', S2, c1, c2, c3⟩ := mnet hm hw
    rcases c3 with ⟨c3, -⟩ | ⟨-, c3⟩
    · exact absurd c3 h
    · subst c3
      exact ⟨-2, S, S2, e0, c1, hI.a c2 (by decide) hw (hx.un c2 (fun k hk => by simp <;> omega)) (hm.un c2 (by decide) (by decide))⟩
end NE
