/-! nets: the reference's parts -/
/-- the reference's net stands -/
def NM (A : Ch) (n : Nat) (M : Nat → Nat) (T : St) : Prop := HM T 61 0 62 0 A ∧ ∀ j, j < n → rI T 69 j = nI (M j)
/-- the pairs as the reference has them -/
def Eds (n t : Nat) (T : St) : Prop := ∀ i, i < n - 1 → rI T 72 (2 * i) = nI (lea n t i) ∧ rI T 72 (2 * i + 1) = nI (par n t i)
theorem srch (F : Nat → Int32 → Option Int32) {T : St} {n l : Nat} {f : Nat → Nat} (hF : ∀ fu v, F (fu + 1) v = (ldA T 71 v).bind fun x => if x = 1 then some v else F fu (v + 1)) (h6 : n ≤ 6) (hf : ∀ v, v < n → rI T 71 v = nI (f v) ∧ f v < 100) (hl : l < n) (h1 : f l = 1) : ∀ c fu k, k + c = l → c < fu → (∀ x, k ≤ x → x < l → f x ≠ 1) → F fu (nI k) = some (nI l) := by
  intro c
  induction c with
  | zero =>
    intro fu k hk hfu _
    obtain ⟨m, rfl⟩ : ∃ m', fu = m' + 1 := ⟨fu - 1, by omega⟩
    have hk : k = l := hk
    subst hk
    rw [hF]
    refine (bd ((ldA_s T 71 k rfl rfl (by show _ < 6; omega)).trans (congrArg some (hf k hl).1))).trans ?_
    exact if_pos (by rw [h1]; rfl)
  | succ c ih =>
    intro fu k hk hfu hm
    obtain ⟨m, rfl⟩ : ∃ m', fu = m' + 1 := ⟨fu - 1, by omega⟩
    have hfk := hf k (by omega)
    rw [hF]
    refine (bd ((ldA_s T 71 k rfl rfl (by show _ < 6; omega)).trans (congrArg some hfk.1))).trans ?_
    refine (if_neg (fun z => hm k (Nat.le_refl _) (by omega) ((nI_eq (b := 1) (by omega) (by decide)).mp z))).trans ?_
    rw [nI_1]
    exact ih m (k + 1) (by omega) (by omega) (fun x h1 h2 => hm x (by omega) h2)
section PA
variable {A : Ch} {n t : Nat} {M : Nat → Nat} {T : St}
theorem NM.un {T' : St} (h : NM A n M T) (hu : Un [70, 71, 72, 73] T T') : NM A n M T' :=
  ⟨h.1.un hu (by decide) (by decide), fun j hj => ((hu 69 (by decide)).1 j).trans (h.2 j hj)⟩
theorem code_ok (hT : Tre n t) (v3 v4 v5 : Int32) : ∃ T', X11_net_L135 (nI n) v3 v4 v5 FU (nI t) 0 T = some T' ∧ Un [70] T T' ∧ ∀ k, k < n - 2 → rI T' 70 k = nI (co n t k) := by
  have hn2 := hT.1
  have hn6 := hT.2.1
  have ht := hT.b
  have e2 : nI n - 2 = nI (n - 2) := pk_sub (b := 2) (by omega)
  exact forG (fun fu k (s : Int32 × St) => X11_net_L135 (nI n) v3 v4 v5 fu s.1 (nI k) s.2) (n - 2) (fun k s => s.1 = nI (t / n ^ k) ∧ Un [70] T s.2 ∧ ∀ j, j < k → rI s.2 70 j = nI (co n t j)) (fun s => Un [70] T s ∧ ∀ k, k < n - 2 → rI s 70 k = nI (co n t k)) (fun fu s hp => ⟨s.2, if_pos (by
      rw [e2]
      exact nI_le (Nat.le_refl _) (by omega)), hp.2⟩) (fun fu k s hk hp => by
    obtain ⟨s1, S⟩ := s
    obtain ⟨p1, p2, p3⟩ := hp
    have p1 : s1 = nI (t / n ^ k) := p1
    have p2 : Un [70] T S := p2
    have p3 : ∀ j, j < k → rI S 70 j = nI (co n t j) := p3
    have hc := co_lt (n := n) (t := t) k (by omega)
    have htk : t / n ^ k ≤ t := Nat.div_le_self _ _
    right
    refine ⟨(nI (t / n ^ (k + 1)), wI S 70 k (nI (co n t k))), ?_, rfl, p2.trs (Un.wI _ _ _ _ (by simp)), fun j hj => ?_⟩
    · show X11_net_L135 (nI n) v3 v4 v5 (fu + 1) s1 (nI k) S = X11_net_L135 (nI n) v3 v4 v5 fu (nI (t / n ^ (k + 1))) (nI (k + 1)) (wI S 70 k (nI (co n t k)))
      refine (if_neg (by rw [e2]; exact nI_ge hk (by omega))).trans ?_
      refine (bd ((cg2 rmO p1 rfl).trans (rmN (by omega) (by omega) (by omega)))).trans ?_
      refine (bd (stA_s S 70 k _ rfl rfl (by show _ < 4; omega))).trans ?_
      refine (bd ((cg2 dvO p1 rfl).trans (dvN (by omega) (by omega) (by omega)))).trans ?_
      rw [nI_1, Nat.div_div_eq_div_mul, ← Nat.pow_succ]
      rfl
    · show rI (wI S 70 k (nI (co n t k))) 70 j = _
      rw [rI_wI]
      by_cases e : j = k
      · rw [if_pos ⟨rfl, e⟩, e]
      · rw [if_neg (fun z => e z.2)]
        exact p3 j (by omega)) (n - 2) FU 0 (nI t, T) (by omega) (FU_lt (by omega)) ⟨by show nI t = nI (t / n ^ 0); rw [Nat.pow_zero, Nat.div_one], Un.rf _ _, fun j hj => by omega⟩
theorem left1 (h6 : n ≤ 6) : ∃ T', X11_parts_L2 (nI n) FU 0 T = some T' ∧ Un [71] T T' ∧ ∀ v, v < n → rI T' 71 v = nI 1 :=
  forG (fun fu k (s : St) => X11_parts_L2 (nI n) fu (nI k) s) n (fun k s => Un [71] T s ∧ ∀ v, v < k → rI s 71 v = nI 1) (fun s => Un [71] T s ∧ ∀ v, v < n → rI s 71 v = nI 1) (fun fu s hp => ⟨s, if_pos (nI_le (Nat.le_refl _) (by omega)), hp⟩) (fun fu k s hk hp => by
    right
    refine ⟨wI s 71 k (nI 1), ?_, hp.1.trs (Un.wI _ _ _ _ (by simp)), fun v hv => ?_⟩
    · show X11_parts_L2 (nI n) (fu + 1) (nI k) s = X11_parts_L2 (nI n) fu (nI (k + 1)) _
      refine (if_neg (nI_ge hk (by omega))).trans ?_
      refine (bd (stA_s s 71 k _ rfl rfl (by show _ < 6; omega))).trans ?_
      rw [nI_1]
      rfl
    · rw [rI_wI]
      by_cases e : v = k
      · rw [if_pos ⟨rfl, e⟩]
      · rw [if_neg (fun z => e z.2)]
        exact hp.2 v (by omega)) n FU 0 T (by omega) (FU_lt (by omega)) ⟨Un.rf _ _, fun v hv => by omega⟩
theorem left2 (hT : Tre n t) (h70 : ∀ k, k < n - 2 → rI T 70 k = nI (co n t k)) (h71 : ∀ v, v < n → rI T 71 v = nI 1) : ∃ T', X11_parts_L22 (nI n) FU 0 T = some T' ∧ Un [71] T T' ∧ ∀ v, v < n → rI T' 71 v = nI (dgt (PZ n t 0) v) := by
  have hn2 := hT.1
  have hn6 := hT.2.1
  have e2 : nI n - 2 = nI (n - 2) := pk_sub (b := 2) (by omega)
  exact forG (fun fu k (s : St) => X11_parts_L22 (nI n) fu (nI k) s) (n - 2) (fun k s => Un [71] T s ∧ ∀ v, v < n → rI s 71 v = nI (dgt (P0 n t k) v)) (fun s => Un [71] T s ∧ ∀ v, v < n → rI s 71 v = nI (dgt (PZ n t 0) v)) (fun fu s hp => ⟨s, if_pos (by
      rw [e2]
      exact nI_le (Nat.le_refl _) (by omega)), hp⟩) (fun fu k s hk hp => by
    obtain ⟨p1, p2⟩ := hp
    have hc := co_lt (n := n) (t := t) k (by omega)
    have hb := P0_b (n := n) (t := t) (by omega) hn6 k (by omega)
    have hbc := hb (co n t k) (by omega)
    right
    refine ⟨wI s 71 (co n t k) (nI (dgt (P0 n t k) (co n t k) + 1)), ?_, p1.trs (Un.wI _ _ _ _ (by simp)), fun v hv => ?_⟩
    · show X11_parts_L22 (nI n) (fu + 1) (nI k) s = X11_parts_L22 (nI n) fu (nI (k + 1)) _
      refine (if_neg (by rw [e2]; exact nI_ge hk (by omega))).trans ?_
      refine (bd ((ldA_s s 70 k rfl rfl (by show _ < 4; omega)).trans (congrArg some (((p1 70 (by decide)).1 k).trans (h70 k hk))))).trans ?_
      refine (bd ((ldA_s s 71 (co n t k) rfl rfl (by show _ < 6; omega)).trans (congrArg some (p2 _ hc)))).trans ?_
      refine (bd (stA_s s 71 (co n t k) _ rfl rfl (by show _ < 6; omega))).trans ?_
      rw [nI_1, nI_1]
    · show rI (wI s 71 (co n t k) _) 71 v = nI (dgt (P0 n t k + 8 ^ co n t k) v)
      rw [rI_wI]
      by_cases e : v = co n t k
      · rw [if_pos ⟨rfl, e⟩, e, dgt_aS (by omega) (by omega)]
      · rw [if_neg (fun z => e z.2), p2 v hv, dgt_aN (by omega) (by omega) (by omega) e]) (n - 2) FU 0 T (by omega) (FU_lt (by omega)) ⟨Un.rf _ _, fun v hv => by
      show rI T 71 v = nI (dgt 37449 v)
      rw [P0_0 (by omega)]
      exact h71 v hv⟩
theorem left3 (hm : HM T 61 0 62 0 A) (hw : Wf A) (h6 : n ≤ 6) {P : Nat} (h71 : ∀ v, v < n → rI T 71 v = nI (dgt P v)) : ∃ x, X11_parts_L54 T (nI n) FU 1 0 = some x ∧ ((x = 1 ∧ ∀ v, v < n → dgt P v ≤ A.most) ∨ (x = 0 ∧ ¬ ∀ v, v < n → dgt P v ≤ A.most)) := by
  have e61 : ldA T 61 131 = some (nI A.most) := (ldA_s T 61 131 rfl rfl (by decide)).trans (congrArg some hm.1.2.2.1)
  have hmo := hw.2.2.2.2.2.2.1.2
  exact forG (fun fu k (s : Int32) => X11_parts_L54 T (nI n) fu s (nI k)) n (fun k s => (s = 1 ∧ ∀ v, v < k → dgt P v ≤ A.most) ∨ (s = 0 ∧ ¬ ∀ v, v < n → dgt P v ≤ A.most)) (fun s => (s = 1 ∧ ∀ v, v < n → dgt P v ≤ A.most) ∨ (s = 0 ∧ ¬ ∀ v, v < n → dgt P v ≤ A.most)) (fun fu s hp => ⟨s, if_pos (nI_le (Nat.le_refl _) (by omega)), hp⟩) (fun fu k s hk hp => by
    have hd := dgt_lt P k
    right
    rcases hp with ⟨rfl, hp⟩ | ⟨rfl, hp⟩
    · have e0 : X11_parts_L54 T (nI n) (fu + 1) 1 (nI k) = X11_parts_L54 T (nI n) fu (if nI A.most < nI (dgt P k) then 0 else 1) (nI (k + 1)) := by
        refine (if_neg (nI_ge hk (by omega))).trans ?_
        refine (bd (a := if nI A.most < nI (dgt P k) then (0 : Int32) else 1) ?_).trans (by rw [nI_1])
        refine (if_neg (by decide)).trans ?_
        refine (bd ((ldA_s T 71 k rfl rfl (by show _ < 6; omega)).trans (congrArg some (h71 k hk)))).trans ?_
        refine (bd e61).trans ?_
        exact some_if
      by_cases hle : dgt P k ≤ A.most
      · refine ⟨1, ?_, Or.inl ⟨rfl, fun v hv => ?_⟩⟩
        · show X11_parts_L54 T (nI n) (fu + 1) 1 (nI k) = _
          rw [e0, if_neg (nI_nlt hle (by omega))]
        · by_cases e : v = k
          · rw [e]; exact hle
          · exact hp v (by omega)
      · refine ⟨0, ?_, Or.inr ⟨rfl, fun z => hle (z k hk)⟩⟩
        show X11_parts_L54 T (nI n) (fu + 1) 1 (nI k) = _
        rw [e0, if_pos (nI_lt (by omega) (by omega))]
    · refine ⟨0, ?_, Or.inr ⟨rfl, hp⟩⟩
      show X11_parts_L54 T (nI n) (fu + 1) 0 (nI k) = X11_parts_L54 T (nI n) fu 0 (nI (k + 1))
      refine (if_neg (nI_ge hk (by omega))).trans ?_
      refine (bd (a := (0 : Int32)) (if_pos rfl)).trans (by rw [nI_1])) n FU 0 1 (by omega) (FU_lt (by omega)) (Or.inl ⟨rfl, fun v hv => by omega⟩)
theorem ends1 (hT : Tre n t) (h70 : ∀ k, k < n - 2 → rI T 70 k = nI (co n t k)) (h71 : ∀ v, v < n → rI T 71 v = nI (dgt (PZ n t 0) v)) (v2 : Int32) : ∃ r, X11_parts_L97 (nI n) v2 FU 0 0 T = some r ∧ r.1 = nI (n - 2) ∧ Un [71, 72] T r.2 ∧ (∀ v, v < n → rI r.2 71 v = nI (dgt (PZ n t (n - 2)) v)) ∧ ∀ i, i < n - 2 → rI r.2 72 (2 * i) = nI (lea n t i) ∧ rI r.2 72 (2 * i + 1) = nI (par n t i) := by
  have hn2 := hT.1
  have hn6 := hT.2.1
  have e2 : nI n - 2 = nI (n - 2) := pk_sub (b := 2) (by omega)
  exact forG (fun fu k (s : Int32 × St) => X11_parts_L97 (nI n) v2 fu s.1 (nI k) s.2) (n - 2) (fun k s => s.1 = nI k ∧ Un [71, 72] T s.2 ∧ (∀ v, v < n → rI s.2 71 v = nI (dgt (PZ n t k) v)) ∧ ∀ i, i < k → rI s.2 72 (2 * i) = nI (lea n t i) ∧ rI s.2 72 (2 * i + 1) = nI (par n t i)) (fun r => r.1 = nI (n - 2) ∧ Un [71, 72] T r.2 ∧ (∀ v, v < n → rI r.2 71 v = nI (dgt (PZ n t (n - 2)) v)) ∧ ∀ i, i < n - 2 → rI r.2 72 (2 * i) = nI (lea n t i) ∧ rI r.2 72 (2 * i + 1) = nI (par n t i)) (fun fu s hp => ⟨(s.1, s.2), if_pos (by
      rw [e2]
      exact nI_le (Nat.le_refl _) (by omega)), hp⟩) (fun fu k s hk hp => by
    obtain ⟨s1, S⟩ := s
    obtain ⟨p1, p2, p3, p4⟩ := hp
    have p1 : s1 = nI k := p1
    have p2 : Un [71, 72] T S := p2
    have p3 : ∀ v, v < n → rI S 71 v = nI (dgt (PZ n t k) v) := p3
    have p4 : ∀ i, i < k → rI S 72 (2 * i) = nI (lea n t i) ∧ rI S 72 (2 * i + 1) = nI (par n t i) := p4
    subst p1
    obtain ⟨a1, a2, a3⟩ := tr_1 hT (i := k) (by omega)
    obtain ⟨b1, b2⟩ := tr_2 hT hk
    have k1 : X11_parts_L108 S (nI n) v2 (nI k) (nI k) FU 0 = some (nI (lea n t k)) := srch (X11_parts_L108 S (nI n) v2 (nI k) (nI k)) (f := dgt (PZ n t k)) (fun fu v => rfl) hn6 (fun v hv => ⟨p3 v hv, by have := dgt_lt (PZ n t k) v; omega⟩) a1 a2 (lea n t k) FU 0 (by omega) (FU_lt (by omega)) (fun x _ hx => lea_min hx)
    obtain ⟨S1, eS1⟩ : ∃ S1, S1 = wI S 72 (2 * k) (nI (lea n t k)) := ⟨_, rfl⟩
    obtain ⟨S2, eS2⟩ : ∃ S2, S2 = wI S1 72 (2 * k + 1) (nI (par n t k)) := ⟨_, rfl⟩
    obtain ⟨S3, eS3⟩ : ∃ S3, S3 = wI S2 71 (lea n t k) 0 := ⟨_, rfl⟩
    obtain ⟨S4, eS4⟩ : ∃ S4, S4 = wI S3 71 (par n t k) (nI (dgt (PZ n t k) (par n t k) - 1)) := ⟨_, rfl⟩
    have c0 : rI S 70 k = nI (par n t k) := by
      rw [par_co hk, (p2 70 (by decide)).1]
      exact h70 k hk
    have c1 : rI S1 70 k = nI (par n t k) := by rw [eS1, rI_wI_a (by decide)]; exact c0
    have c3 : rI S3 70 k = nI (par n t k) := by rw [eS3, rI_wI_a (by decide), eS2, rI_wI_a (by decide)]; exact c1
    have d3 : ∀ v, v < n → rI S3 71 v = nI (if v = lea n t k then 0 else dgt (PZ n t k) v) := fun v hv => by
      rw [eS3, rI_wI]
      by_cases e : v = lea n t k
      · rw [if_pos ⟨rfl, e⟩, if_pos e]
        rfl
      · rw [if_neg (fun z => e z.2), if_neg e, eS2, rI_wI_a (by decide), eS1, rI_wI_a (by decide)]
        exact p3 v hv
    have d4 : rI S3 71 (par n t k) = nI (dgt (PZ n t k) (par n t k)) := by rw [d3 _ a3, if_neg b1]
    right
    refine ⟨(nI (k + 1), S4), ?_, rfl, ?_, fun v hv => ?_, fun i hi => ?_⟩
    · show X11_parts_L97 (nI n) v2 (fu + 1) (nI k) (nI k) S = X11_parts_L97 (nI n) v2 fu (nI (k + 1)) (nI (k + 1)) S4
      refine (if_neg (by rw [e2]; exact nI_ge hk (by omega))).trans ?_
      refine (bd k1).trans ?_
      refine (bd ((stA_s S 72 (2 * k) _ rfl (pk_mul 2 k) (by show _ < 10; omega)).trans (congrArg some eS1.symm))).trans ?_
      refine (bd ((ldA_s S1 70 k rfl rfl (by show _ < 4; omega)).trans (congrArg some c1))).trans ?_
      refine (bd ((stA_s S1 72 (2 * k + 1) _ rfl (by rw [← nI_1, ← pk_mul]; rfl) (by show _ < 10; omega)).trans (congrArg some eS2.symm))).trans ?_
      refine (bd ((stA_s S2 71 (lea n t k) _ rfl rfl (by show _ < 6; omega)).trans (congrArg some eS3.symm))).trans ?_
      refine (bd ((ldA_s S3 70 k rfl rfl (by show _ < 4; omega)).trans (congrArg some c3))).trans ?_
      refine (bd ((ldA_s S3 71 (par n t k) rfl rfl (by show _ < 6; omega)).trans (congrArg some d4))).trans ?_
      refine (bd ((stA_s S3 71 (par n t k) _ rfl rfl (by show _ < 6; omega)).trans (congrArg some (show wI S3 71 (par n t k) (nI (dgt (PZ n t k) (par n t k)) - 1) = S4 by rw [eS4, ← pk_sub (b := 1) b2]; rfl)))).trans ?_
      rw [nI_1]
    · show Un [71, 72] T S4
      rw [eS4, eS3, eS2, eS1]
      exact p2.trs ((Un.wI _ _ _ _ (by simp)).trs ((Un.wI _ _ _ _ (by simp)).trs ((Un.wI _ _ _ _ (by simp)).trs (Un.wI _ _ _ _ (by simp)))))
    · show rI S4 71 v = _
      rw [PZ_s hT hk hv, eS4, rI_wI]
      by_cases e : v = par n t k
      · rw [if_pos ⟨rfl, e⟩, if_pos e]
      · rw [if_neg (fun z => e z.2), if_neg e]
        exact d3 v hv
    · show rI S4 72 (2 * i) = _ ∧ rI S4 72 (2 * i + 1) = _
      rw [eS4, rI_wI_a (by decide), rI_wI_a (by decide), eS3, rI_wI_a (by decide), rI_wI_a (by decide), eS2]
      by_cases e : i = k
      · rw [e]
        refine ⟨?_, rI_wI_s _ _ _ _⟩
        rw [rI_wI_k (by omega), eS1]
        exact rI_wI_s _ _ _ _
      · rw [rI_wI_k (by omega), rI_wI_k (by omega), eS1, rI_wI_k (by omega), rI_wI_k (by omega)]
        exact p4 i (by omega)) (n - 2) FU 0 (0, T) (by omega) (FU_lt (by omega)) ⟨rfl, Un.rf _ _, h71, fun i hi => by omega⟩
theorem parts_ok (hm : HM T 61 0 62 0 A) (hw : Wf A) (hT : Tre n t) (h70 : ∀ k, k < n - 2 → rI T 70 k = nI (co n t k)) : ∃ x T', X11_parts T (nI n) = some (x, T') ∧ Un [71, 72] T T' ∧ Eds n t T' ∧ ((x = 1 ∧ ∀ v, v < n → dgt (PZ n t 0) v ≤ A.most) ∨ (x = 0 ∧ ¬ ∀ v, v < n → dgt (PZ n t 0) v ≤ A.most)) := by
  have hn2 := hT.1
  have hn6 := hT.2.1
  obtain ⟨T1, a1, a2, a3⟩ := left1 (T := T) hn6
  obtain ⟨T2, b1, b2, b3⟩ := left2 hT (fun k hk => ((a2 70 (by decide)).1 k).trans (h70 k hk)) a3
  have u2 : Un [71] T T2 := a2.trs b2
  have hm2 : HM T2 61 0 62 0 A := hm.un u2 (by decide) (by decide)
  obtain ⟨x, c1, c2⟩ := left3 hm2 hw hn6 b3
  obtain ⟨⟨r1, T3⟩, d1, d2, d3, d4, d5⟩ := ends1 hT (fun k hk => ((u2 70 (by decide)).1 k).trans (h70 k hk)) b3 x
  have d2 : r1 = nI (n - 2) := d2
  have d3 : Un [71, 72] T2 T3 := d3
  have d4 : ∀ v, v < n → rI T3 71 v = nI (dgt (PZ n t (n - 2)) v) := d4
  have d5 : ∀ i, i < n - 2 → rI T3 72 (2 * i) = nI (lea n t i) ∧ rI T3 72 (2 * i + 1) = nI (par n t i) := d5
  subst d2
  obtain ⟨e1, e2, e3⟩ := tr_1 hT (i := n - 2) (by omega)
  obtain ⟨f1, f2⟩ := tr_3 hT
  have hb : ∀ v, v < n → rI T3 71 v = nI (dgt (PZ n t (n - 2)) v) ∧ dgt (PZ n t (n - 2)) v < 100 := fun v hv => ⟨d4 v hv, by have := dgt_lt (PZ n t (n - 2)) v; omega⟩
  have k1 : X11_parts_L188 T3 x (nI (n - 2)) FU 0 = some (nI (lea n t (n - 2))) := srch (X11_parts_L188 T3 x (nI (n - 2))) (f := dgt (PZ n t (n - 2))) (fun fu v => rfl) hn6 hb e1 e2 (lea n t (n - 2)) FU 0 (by omega) (FU_lt (by omega)) (fun x _ hx => lea_min hx)
  have k2 : X11_parts_L211 T3 x (nI (n - 2)) (nI (lea n t (n - 2))) FU (nI (lea n t (n - 2) + 1)) = some (nI (par n t (n - 2))) := srch (X11_parts_L211 T3 x (nI (n - 2)) (nI (lea n t (n - 2)))) (f := dgt (PZ n t (n - 2))) (fun fu v => rfl) hn6 hb e3 f2 (par n t (n - 2) - (lea n t (n - 2) + 1)) FU (lea n t (n - 2) + 1) (by omega) (FU_lt (by omega)) (fun x h1 h2 => par_min (by omega) h2)
  obtain ⟨S1, eS1⟩ : ∃ S1, S1 = wI T3 72 (2 * (n - 2)) (nI (lea n t (n - 2))) := ⟨_, rfl⟩
  obtain ⟨S2, eS2⟩ : ∃ S2, S2 = wI S1 72 (2 * (n - 2) + 1) (nI (par n t (n - 2))) := ⟨_, rfl⟩
  refine ⟨x, S2, ?_, ?_, fun i hi => ?_, c2⟩
  · unfold X11_parts
    refine (bd a1).trans ?_
    refine (bd b1).trans ?_
    refine (bd c1).trans ?_
    refine (bd d1).trans ?_
    refine (bd k1).trans ?_
    refine (bd ((congrArg (X11_parts_L211 T3 x (nI (n - 2)) (nI (lea n t (n - 2))) FU) (nI_1 _)).trans k2)).trans ?_
    refine (bd ((stA_s T3 72 (2 * (n - 2)) _ rfl (pk_mul 2 (n - 2)) (by show _ < 10; omega)).trans (congrArg some eS1.symm))).trans ?_
    exact bd ((stA_s S1 72 (2 * (n - 2) + 1) _ rfl (by rw [← nI_1, ← pk_mul]; rfl) (by show _ < 10; omega)).trans (congrArg some eS2.symm))
  · rw [eS2, eS1]
    exact (u2.mono (by simp)).trs (d3.trs ((Un.wI _ _ _ _ (by simp)).trs (Un.wI _ _ _ _ (by simp))))
  · rw [eS2]
    by_cases e : i = n - 2
    · rw [e]
      refine ⟨?_, rI_wI_s _ _ _ _⟩
      rw [rI_wI_k (by omega), eS1]
      exact rI_wI_s _ _ _ _
    · rw [rI_wI_k (by omega), rI_wI_k (by omega), eS1, rI_wI_k (by omega), rI_wI_k (by omega)]
      exact d5 i (by omega)
end PA
