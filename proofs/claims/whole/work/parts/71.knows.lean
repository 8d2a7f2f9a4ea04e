/-! who knows of whom -/
def cm (A : Ch) (d to o : Nat) : Bool := decide (¬ A.val to 0 = 5) && decide (¬ A.val o 0 = 5) && decide (0 < A.wire o to) && !A.lo d o to
def kI (A : Ch) : Nat → Nat → Int32
  | 0, r => 1 <<< (nI r &&& 31)
  | d + 1, r => fo (fun o (v : Int32) => v ||| if cm A d r o = true then kI A d o else 0) 0 A.n (kI A d r)
theorem or_fo (x : Nat → Int32) (b v : Int32) : ∀ n, fo (fun o (v : Int32) => v ||| x o) 0 n (b ||| v) = b ||| fo (fun o (v : Int32) => v ||| x o) 0 n v
  | 0 => rfl
  | n + 1 => by rw [fo_succ, fo_succ, or_fo x b v n, Int32.or_assoc]
theorem w34 {p : Nat} (hp : p = 33 ∨ p = 34) : stat 1 p = true ∧ kl p = 8 := by
  rcases hp with rfl | rfl <;> exact ⟨rfl, rfl⟩
section KN
variable {S : St} {A : Ch}
theorem told_ok (hx : HX S 1 A) (hw : Wf A) {d to q : Nat} (hd : d < 7) (hto : to < A.n) (hq : q = 33 ∨ q = 34) (h1 : rR S 32 1 = q) (k : Nat → Int32) (hk : ∀ o, o < A.n → rI S q o = k o) : X9_toldTo S (nI to) (nI (d + 1)) = some (fo (fun o (v : Int32) => v ||| if cm A d to o = true then k o else 0) 0 A.n 0) := by
  have hn := hw.1
  by_cases hc : A.val to 0 = 5
  · have e0 : fo (fun o (v : Int32) => v ||| if cm A d to o = true then k o else 0) 0 A.n 0 = 0 := by
      refine fo_inv (fun _ v => v = (0 : Int32)) A.n 0 0 rfl (fun j s _ _ hs => ?_)
      rw [hs, if_neg (by unfold cm; simp [hc])]
      rfl
    rw [e0]
    unfold X9_toldTo
    have : X9_toldTo_L6 S (nI to) (nI (d + 1)) FU 0 0 = some 0 := by
      refine (if_neg (xnle hx hw (k := 0) (by omega))).trans ?_
      refine (bd ((isCut_ok hx hw hto).trans (congrArg some (if_pos hc)))).trans ?_
      exact if_neg (by decide)
    exact bd this
  · have h := foldG (fun n j (s : Int32) => X9_toldTo_L6 S (nI to) (nI (d + 1)) n s (nI j)) id A.n (fun o (v : Int32) => v ||| if cm A d to o = true then k o else 0) (fun n s => if_pos (xle hx hw)) (fun n j s hj => by
      show X9_toldTo_L6 S (nI to) (nI (d + 1)) (n + 1) s (nI j) = X9_toldTo_L6 S (nI to) (nI (d + 1)) n (s ||| if cm A d to j = true then k j else 0) (nI (j + 1))
      refine (if_neg (xnle hx hw hj)).trans ?_
      refine (bd ((isCut_ok hx hw hto).trans (congrArg some (if_neg hc)))).trans ?_
      refine (if_pos rfl).trans ?_
      refine (bd (betw hx (by omega) (by omega))).trans ?_
      rw [← nI_1 j]
      by_cases h0 : A.wire j to = 0
      · rw [if_neg (c := cm A d to j = true) (by unfold cm; simp [h0]), Int32.or_zero]
        refine (bd (if_pos ((wire0 hw (by omega) (by omega)).2.mpr h0))).trans ?_
        exact bd (if_pos rfl)
      · have e1 : (if nI (A.wire j to) ≤ 0 then some (0 : Int32) else (X6_losesWord S (nI (d + 1)) (nI j) (nI to)).bind fun x21 => if x21 = 0 then some (1 : Int32) else some 0) = some (if A.lo d j to = true then 0 else 1) := by
          rw [if_neg (fun z => h0 ((wire0 hw (by omega) (by omega)).2.mp z)), lostR hx hd (by omega) (by omega)]
          cases A.lo d j to <;> rfl
        refine (bd e1).trans ?_
        by_cases hl : A.lo d j to = true
        · rw [if_neg (c := cm A d to j = true) (by unfold cm; simp [hl]), Int32.or_zero, if_pos hl]
          exact bd (if_pos rfl)
        · rw [if_neg hl, if_neg (show ¬ (1 : Int32) = 0 by decide)]
          by_cases hcj : A.val j 0 = 5
          · rw [if_neg (c := cm A d to j = true) (by unfold cm; simp [hcj]), Int32.or_zero, isCut_ok hx hw hj, if_pos hcj]
            rfl
          · rw [if_pos (c := cm A d to j = true) (by unfold cm; simp [hc, hcj, hl]; omega), isCut_ok hx hw hj, if_neg hcj]
            have el : ldA S (rR S 32 1) (nI j) = some (k j) := by
              rw [h1]
              exact (ldA_s S q j (w34 hq).1 rfl (by rw [(w34 hq).2]; omega)).trans (congrArg some (hk j hj))
            show ((ldA S (rR S 32 1) (nI j)).bind fun x18 => some (s ||| x18)).bind _ = _
            rw [el]
            rfl) A.n FU 0 0 (by omega) (FU_lt (by omega))
    unfold X9_toldTo
    exact bd h
theorem tell1 (hx : HX S 1 A) (hw : Wf A) {p : Nat} (hp : p = 33 ∨ p = 34) (h0 : rR S 32 0 = p) (v2 : Int32) : ∃ T, X9_tellFor_L2 v2 FU 0 S = some T ∧ Un [p] S T ∧ ∀ r, r < A.n → rI T p r = kI A 0 r := by
  have hn := hw.1
  obtain ⟨T, hT, q⟩ := forG (fun m k (s : St) => X9_tellFor_L2 v2 m (nI k) s) A.n (fun k s => Un [p] S s ∧ ∀ r, r < k → rI s p r = kI A 0 r) (fun s => Un [p] S s ∧ ∀ r, r < A.n → rI s p r = kI A 0 r) (fun m s hp' => ⟨s, if_pos (by rw [(hp'.1 2 (by simp; omega)).1]; exact xle hx hw), hp'⟩) (fun m k s hk hp' => by
    obtain ⟨p1, p2⟩ := hp'
    right
    refine ⟨wI s p k (1 <<< (nI k &&& 31)), ?_, p1.trs (Un.wI _ _ _ _ (by simp)), fun r hr => ?_⟩
    · show X9_tellFor_L2 v2 (m + 1) (nI k) s = X9_tellFor_L2 v2 m (nI (k + 1)) _
      refine (if_neg (by rw [(p1 2 (by simp; omega)).1]; exact xnle hx hw hk)).trans ?_
      rw [(p1 32 (by simp; omega)).2.2, h0]
      refine (bd (stA_s s p k _ (w34 hp).1 rfl (by rw [(w34 hp).2]; omega))).trans ?_
      rw [nI_1]
    · rw [rI_wI]
      by_cases hrk : r = k
      · rw [if_pos ⟨rfl, hrk⟩, hrk]; rfl
      · rw [if_neg (fun z => hrk z.2)]
        exact p2 r (by omega)) A.n FU 0 S (by omega) (FU_lt (by omega)) ⟨Un.rf _ _, fun r hr => absurd hr (Nat.not_lt_zero r)⟩
  exact ⟨T, hT, q⟩
theorem tell2 (hx : HX S 1 A) (hw : Wf A) {d p q : Nat} (hd : d < 7) (hp : p = 33 ∨ p = 34) (hq : q = 33 ∨ q = 34) (hpq : p ≠ q) (h0 : rR S 32 0 = p) (h1 : rR S 32 1 = q) (hk : ∀ r, r < A.n → rI S q r = kI A d r) (v2 : Int32) : ∃ T, X9_tellFor_L55 v2 (nI (d + 1)) FU 0 S = some T ∧ Un [p] S T ∧ ∀ r, r < A.n → rI T p r = kI A (d + 1) r := by
  have hn := hw.1
  obtain ⟨T, hT, q⟩ := forG (fun m k (s : St) => X9_tellFor_L55 v2 (nI (d + 1)) m (nI k) s) A.n (fun k s => Un [p] S s ∧ ∀ r, r < k → rI s p r = kI A (d + 1) r) (fun s => Un [p] S s ∧ ∀ r, r < A.n → rI s p r = kI A (d + 1) r) (fun m s hp' => ⟨s, if_pos (by rw [(hp'.1 2 (by simp; omega)).1]; exact xle hx hw), hp'⟩) (fun m k s hk2 hp' => by
    obtain ⟨p1, p2⟩ := hp'
    right
    have e0 : rR s 32 0 = p := ((p1 32 (by simp; omega)).2.2 0).trans h0
    have e1 : rR s 32 1 = q := ((p1 32 (by simp; omega)).2.2 1).trans h1
    have eq : ∀ r, r < A.n → rI s q r = kI A d r := fun r hr => ((p1 q (by simp; omega)).1 r).trans (hk r hr)
    have hxs : HX s 1 A := hx.un p1 (fun k hk => by simp <;> omega)
    refine ⟨wI s p k (kI A (d + 1) k), ?_, p1.trs (Un.wI _ _ _ _ (by simp)), fun r hr => ?_⟩
    · show X9_tellFor_L55 v2 (nI (d + 1)) (m + 1) (nI k) s = X9_tellFor_L55 v2 (nI (d + 1)) m (nI (k + 1)) _
      refine (if_neg (xnle hxs hw hk2)).trans ?_
      have el : ldA s (rR s 32 1) (nI k) = some (kI A d k) := by
        rw [e1]
        exact (ldA_s s q k (w34 hq).1 rfl (by rw [(w34 hq).2]; omega)).trans (congrArg some (eq k hk2))
      refine (bd el).trans ?_
      refine (bd (told_ok hxs hw hd hk2 hq e1 (kI A d) eq)).trans ?_
      rw [← or_fo (fun o => if cm A d k o = true then kI A d o else 0) (kI A d k) 0 A.n, Int32.or_zero, e0]
      refine (bd (stA_s s p k _ (w34 hp).1 rfl (by rw [(w34 hp).2]; omega))).trans ?_
      rw [nI_1]
      rfl
    · rw [rI_wI]
      by_cases hrk : r = k
      · rw [if_pos ⟨rfl, hrk⟩, hrk]
      · rw [if_neg (fun z => hrk z.2)]
        exact p2 r (by omega)) A.n FU 0 S (by omega) (FU_lt (by omega)) ⟨Un.rf _ _, fun r hr => absurd hr (Nat.not_lt_zero r)⟩
  exact ⟨T, hT, q⟩
/-- what the class's tellFor leaves -/
theorem tell_ok (hx : HX S 1 A) (hw : Wf A) (hr : Rf S) {c : Nat} (hc : c ≤ 7) : ∃ T p, X9_tellFor S (nI c) = some T ∧ Un [32, 33, 34] S T ∧ Rf T ∧ (p = 33 ∨ p = 34) ∧ rR T 32 0 = p ∧ ∀ r, r < A.n → rI T p r = kI A c r := by
  obtain ⟨p, q, hp, hq, hpq, h0, h1⟩ : ∃ p q, (p = 33 ∨ p = 34) ∧ (q = 33 ∨ q = 34) ∧ p ≠ q ∧ rR S 32 0 = p ∧ rR S 32 1 = q := by
    rcases hr.2 with ⟨a, b⟩ | ⟨a, b⟩
    · exact ⟨33, 34, by omega, by omega, by omega, a, b⟩
    · exact ⟨34, 33, by omega, by omega, by omega, a, b⟩
  obtain ⟨S1, s1, s2, s3⟩ := tell1 hx hw hp h0 (nI c)
  have u1 : Un [32, 33, 34] S S1 := s2.mono (fun x hx => by simp at hx ⊢; omega)
  obtain ⟨T, hT, t1, p', t2, t3, t4⟩ := forG (fun m k (s : St) => X9_tellFor_L27 (nI c) m (nI (k + 1)) s) c (fun k s => Un [32, 33, 34] S s ∧ ∃ p q, (p = 33 ∨ p = 34) ∧ (q = 33 ∨ q = 34) ∧ p ≠ q ∧ rR s 32 0 = p ∧ rR s 32 1 = q ∧ ∀ r, r < A.n → rI s p r = kI A k r) (fun s => Un [32, 33, 34] S s ∧ ∃ p, (p = 33 ∨ p = 34) ∧ (rR s 32 0 = p ∧ (rR s 32 1 = 67 - p)) ∧ ∀ r, r < A.n → rI s p r = kI A c r) (fun m s hp' => by
    obtain ⟨z1, p, q, z2, z3, z4, z5, z6, z7⟩ := hp'
    exact ⟨s, if_pos (nI_lt (by omega) (by omega)), z1, p, z2, ⟨z5, by omega⟩, z7⟩) (fun m k s hk hp' => by
    obtain ⟨z1, p, q, z2, z3, z4, z5, z6, z7⟩ := hp'
    right
    obtain ⟨W, hW⟩ : ∃ W, W = wR (wR s 32 1 p) 32 0 q := ⟨_, rfl⟩
    have w0 : rR W 32 0 = q := by rw [hW, rR_wR, if_pos ⟨rfl, rfl⟩]
    have w1 : rR W 32 1 = p := by rw [hW, rR_wR, if_neg (by omega), rR_wR, if_pos ⟨rfl, rfl⟩]
    have wu : Un [32] s W := by rw [hW]; exact (Un.wR _ _ _ _ (by simp)).trs (Un.wR _ _ _ _ (by simp))
    have hxW : HX W 1 A := (hx.un z1 (fun k hk => by simp <;> omega)).un wu (fun k hk => by simp <;> omega)
    obtain ⟨T, a1, a2, a3⟩ := tell2 (S := W) hxW hw (d := k) (p := q) (q := p) (by omega) z3 z2 (Ne.symm z4) w0 w1 (fun r hr => ((wu p (by simp; omega)).1 r).trans (z7 r hr)) (nI c)
    refine ⟨T, ?_, ?_, q, p, z3, z2, Ne.symm z4, ?_, ?_, a3⟩
    · show X9_tellFor_L27 (nI c) (m + 1) (nI (k + 1)) s = X9_tellFor_L27 (nI c) m (nI (k + 1 + 1)) T
      refine (if_neg (fun z => by have := (nI_ltI (by omega) (by omega)).mp z; omega)).trans ?_
      rw [z5, z6]
      refine (bd (rfl : stR s 32 1 p = some (wR s 32 1 p))).trans ?_
      refine (bd (congrArg some hW.symm : stR (wR s 32 1 p) 32 0 q = some W)).trans ?_
      refine (bd a1).trans ?_
      rw [nI_1]
    · exact z1.trs ((wu.mono (by simp)).trs (a2.mono (fun x hx => by simp at hx ⊢; omega)))
    · exact ((a2 32 (by simp; omega)).2.2 0).trans w0
    · exact ((a2 32 (by simp; omega)).2.2 1).trans w1) c FU 0 S1 (by omega) (FU_lt (by omega)) ⟨u1, p, q, hp, hq, hpq, ((s2 32 (by simp; omega)).2.2 0).trans h0, ((s2 32 (by simp; omega)).2.2 1).trans h1, s3⟩
  have hT : X9_tellFor_L27 (nI c) FU 1 S1 = some T := hT
  refine ⟨T, p', ?_, t1, ?_, t2, t3.1, t4⟩
  · unfold X9_tellFor
    refine (bd s1).trans ?_
    exact bd hT
  · refine ⟨?_, ?_⟩
    · rw [(t1 24 (by decide)).2.2, (t1 24 (by decide)).2.2]
      exact hr.1
    · rw [t3.1, t3.2]
      omega
end KN
section MK
variable {S : St} {A : Ch}
theorem mtell1 (hm : HM S 61 0 62 0 A) (hw : Wf A) (v2 : Int32) : ∃ T, X11_tells_L2 v2 FU 0 S = some T ∧ Un [67] S T ∧ ∀ r, r < A.n → rI T 67 r = kI A 0 r := by
  have hn := hw.1
  obtain ⟨T, hT, q⟩ := forG (fun m k (s : St) => X11_tells_L2 v2 m (nI k) s) A.n (fun k s => Un [67] S s ∧ ∀ r, r < k → rI s 67 r = kI A 0 r) (fun s => Un [67] S s ∧ ∀ r, r < A.n → rI s 67 r = kI A 0 r) (fun m s hp' => ⟨s, (bd (rooms_ok (hm.un hp'.1 (by decide) (by decide)))).trans (if_pos (mle hw)), hp'⟩) (fun m k s hk hp' => by
    obtain ⟨p1, p2⟩ := hp'
    right
    refine ⟨wI s 67 k (1 <<< (nI k &&& 31)), ?_, p1.trs (Un.wI _ _ _ _ (by simp)), fun r hr => ?_⟩
    · show X11_tells_L2 v2 (m + 1) (nI k) s = X11_tells_L2 v2 m (nI (k + 1)) _
      refine (bd (rooms_ok (hm.un p1 (by decide) (by decide)))).trans ?_
      refine (if_neg (mnle hw hk)).trans ?_
      refine (bd (stA_s s 67 k _ rfl rfl (by show _ < 8; omega))).trans ?_
      rw [nI_1]
    · rw [rI_wI]
      by_cases hrk : r = k
      · rw [if_pos ⟨rfl, hrk⟩, hrk]; rfl
      · rw [if_neg (fun z => hrk z.2)]
        exact p2 r (by omega)) A.n FU 0 S (by omega) (FU_lt (by omega)) ⟨Un.rf _ _, fun r hr => absurd hr (Nat.not_lt_zero r)⟩
  exact ⟨T, hT, q⟩
theorem mtold (hm : HM S 61 0 62 0 A) (hw : Wf A) {d to : Nat} (hd : d < 7) (hto : to < A.n) (hk : ∀ o, o < A.n → rI S 67 o = kI A d o) (h68 : rI S 68 to = kI A d to) (v1 : Int32) : ∃ T, X11_tells_L57 v1 (nI (d + 1)) (nI to) FU 0 S = some T ∧ Un [68] S T ∧ ∀ x, rI T 68 x = if x = to then kI A (d + 1) to else rI S 68 x := by
  have hn := hw.1
  obtain ⟨T, hT, q⟩ := forG (fun m k (s : St) => X11_tells_L57 v1 (nI (d + 1)) (nI to) m (nI k) s) A.n (fun k s => Un [68] S s ∧ ∀ x, rI s 68 x = if x = to then fo (fun o (v : Int32) => v ||| if cm A d to o = true then kI A d o else 0) 0 k (kI A d to) else rI S 68 x) (fun s => Un [68] S s ∧ ∀ x, rI s 68 x = if x = to then kI A (d + 1) to else rI S 68 x) (fun m s hp' => ⟨s, (bd (rooms_ok (hm.un hp'.1 (by decide) (by decide)))).trans (if_pos (mle hw)), hp'⟩) (fun m k s hk2 hp' => by
    obtain ⟨p1, p2⟩ := hp'
    have hms := hm.un p1 (by decide) (by decide)
    right
    refine ⟨wI s 68 to (fo (fun o (v : Int32) => v ||| if cm A d to o = true then kI A d o else 0) 0 (k + 1) (kI A d to)), ?_, p1.trs (Un.wI _ _ _ _ (by simp)), fun x => ?_⟩
    · show X11_tells_L57 v1 (nI (d + 1)) (nI to) (m + 1) (nI k) s = X11_tells_L57 v1 (nI (d + 1)) (nI to) m (nI (k + 1)) _
      refine (bd (rooms_ok hms)).trans ?_
      refine (if_neg (mnle hw hk2)).trans ?_
      have ll := hms.2.2.2.2.1 d k to hd (by omega) (by omega)
      rw [show 0 + 200 + 64 * d + 8 * k + to = 200 + 64 * d + 8 * k + to by omega] at ll
      have e1 : (if nI k = nI to then some (0 : Int32) else (X11_isCut s (nI k)).bind fun x34 => if x34 = 0 then ((X11_isCut s (nI to)).bind fun x37 => if x37 = 0 then ((X11_wireOf s (nI k) (nI to)).bind fun x40 => if x40 ≤ 0 then some (0 : Int32) else (ldA s 61 (((200 + (64 * (nI (d + 1) - 1))) + (8 * nI k)) + nI to)).bind fun x42 => if x42 = 0 then some (1 : Int32) else some (0 : Int32)) else some (0 : Int32)) else some (0 : Int32)) = some (if cm A d to k = true then 1 else 0) := by
        by_cases hkt : k = to
        · rw [if_pos (by rw [hkt]), if_neg]
          unfold cm
          rw [hkt, hw.2.2.2.1 to (by omega)]
          simp
        · rw [if_neg (fun z => hkt ((nI_eq (by omega) (by omega)).mp z)), misCut_ok hms hw hk2]
          by_cases hck : A.val k 0 = 5
          · rw [if_pos hck, if_neg (c := cm A d to k = true) (by unfold cm; simp [hck])]
            rfl
          · rw [if_neg hck, misCut_ok hms hw hto]
            by_cases hct : A.val to 0 = 5
            · rw [if_pos hct, if_neg (c := cm A d to k = true) (by unfold cm; simp [hct])]
              rfl
            · rw [if_neg hct, wiro hms (by omega) (by omega)]
              by_cases h0 : A.wire k to = 0
              · rw [if_neg (c := cm A d to k = true) (by unfold cm; simp [h0])]
                show (if nI (A.wire k to) ≤ 0 then some (0 : Int32) else _) = _
                exact if_pos ((wire0 hw (by omega) (by omega)).2.mpr h0)
              · show (if nI (A.wire k to) ≤ 0 then some (0 : Int32) else (ldA s 61 (((200 + (64 * (nI (d + 1) - 1))) + (8 * nI k)) + nI to)).bind fun x42 => if x42 = 0 then some (1 : Int32) else some (0 : Int32)) = _
                rw [if_neg (fun z => h0 ((wire0 hw (by omega) (by omega)).2.mp z))]
                have ei : ((200 + (64 * (nI (d + 1) - 1))) + (8 * nI k)) + nI to = nI (200 + 64 * d + 8 * k + to) := by
                  rw [nI_pred, show (200 : Int32) = nI 200 from rfl, show (64 : Int32) = nI 64 from rfl, show (8 : Int32) = nI 8 from rfl, pk_mul, pk_mul, nI_add, nI_add, nI_add]
                rw [(ldA_s s 61 (200 + 64 * d + 8 * k + to) rfl ei (by show _ < 648; omega)).trans (congrArg some ll)]
                by_cases hl : A.lo d k to = true
                · rw [if_pos hl, if_neg (c := cm A d to k = true) (by unfold cm; simp [hl])]
                  rfl
                · rw [if_neg hl, if_pos (c := cm A d to k = true) (by unfold cm; simp [hct, hck, hl]; omega)]
                  rfl
      refine (bd e1).trans ?_
      refine (bd ((ldA_s s 68 to rfl rfl (by show _ < 8; omega)).trans (congrArg some ((p2 to).trans (if_pos rfl))))).trans ?_
      have e2 : (if (if cm A d to k = true then (1 : Int32) else 0) = 0 then some (0 : Int32) else (ldA s 67 (nI k)).bind fun x31 => some x31) = some (if cm A d to k = true then kI A d k else 0) := by
        by_cases hc : cm A d to k = true
        · rw [if_pos hc, if_pos hc]
          refine (if_neg (by decide)).trans ?_
          rw [(ldA_s s 67 k rfl rfl (by show _ < 8; omega)).trans (congrArg some (((p1 67 (by decide)).1 k).trans (hk k hk2)))]
          rfl
        · rw [if_neg hc, if_neg hc]
          exact if_pos rfl
      refine (bd e2).trans ?_
      refine (bd (stA_s s 68 to _ rfl rfl (by show _ < 8; omega))).trans ?_
      rw [nI_1, fo_succ, Nat.zero_add]
    · rw [rI_wI]
      by_cases hx : x = to
      · rw [if_pos ⟨rfl, hx⟩, if_pos hx]
      · rw [if_neg (fun z => hx z.2), if_neg hx, p2 x, if_neg hx]) A.n FU 0 S (by omega) (FU_lt (by omega)) ⟨Un.rf _ _, fun x => by
      by_cases hx : x = to
      · rw [if_pos hx, hx]; exact h68
      · rw [if_neg hx]⟩
  exact ⟨T, hT, q⟩
theorem mtell2 (hm : HM S 61 0 62 0 A) (hw : Wf A) {d : Nat} (hd : d < 7) (hk : ∀ o, o < A.n → rI S 67 o = kI A d o) (v1 : Int32) : ∃ T, X11_tells_L34 v1 (nI (d + 1)) FU 0 S = some T ∧ Un [68] S T ∧ ∀ r, r < A.n → rI T 68 r = kI A (d + 1) r := by
  have hn := hw.1
  obtain ⟨T, hT, q⟩ := forG (fun m k (s : St) => X11_tells_L34 v1 (nI (d + 1)) m (nI k) s) A.n (fun k s => Un [68] S s ∧ ∀ r, r < k → rI s 68 r = kI A (d + 1) r) (fun s => Un [68] S s ∧ ∀ r, r < A.n → rI s 68 r = kI A (d + 1) r) (fun m s hp' => ⟨s, (bd (rooms_ok (hm.un hp'.1 (by decide) (by decide)))).trans (if_pos (mle hw)), hp'⟩) (fun m k s hk2 hp' => by
    obtain ⟨p1, p2⟩ := hp'
    have hms := hm.un p1 (by decide) (by decide)
    right
    have u1 : Un [68] S (wI s 68 k (kI A d k)) := p1.trs (Un.wI _ _ _ _ (by simp))
    obtain ⟨T, a1, a2, a3⟩ := mtold (S := wI s 68 k (kI A d k)) (hm.un u1 (by decide) (by decide)) hw hd hk2 (fun o ho => ((u1 67 (by decide)).1 o).trans (hk o ho)) (rI_wI_s _ _ _ _) v1
    refine ⟨T, ?_, u1.trs a2, fun r hr => ?_⟩
    · show X11_tells_L34 v1 (nI (d + 1)) (m + 1) (nI k) s = X11_tells_L34 v1 (nI (d + 1)) m (nI (k + 1)) T
      refine (bd (rooms_ok hms)).trans ?_
      refine (if_neg (mnle hw hk2)).trans ?_
      refine (bd ((ldA_s s 67 k rfl rfl (by show _ < 8; omega)).trans (congrArg some (((p1 67 (by decide)).1 k).trans (hk k hk2))))).trans ?_
      refine (bd (stA_s s 68 k _ rfl rfl (by show _ < 8; omega))).trans ?_
      refine (bd a1).trans ?_
      rw [nI_1]
    · rw [a3 r]
      by_cases hrk : r = k
      · rw [if_pos hrk, hrk]
      · rw [if_neg hrk, rI_wI_k hrk]
        exact p2 r (by omega)) A.n FU 0 S (by omega) (FU_lt (by omega)) ⟨Un.rf _ _, fun r hr => absurd hr (Nat.not_lt_zero r)⟩
  exact ⟨T, hT, q⟩
theorem mtell3 (hm : HM S 61 0 62 0 A) (hw : Wf A) (k' : Nat → Int32) (hk : ∀ o, o < A.n → rI S 68 o = k' o) (v1 v2 : Int32) : ∃ T, X11_tells_L171 v1 v2 FU 0 S = some T ∧ Un [67] S T ∧ ∀ r, r < A.n → rI T 67 r = k' r := by
  have hn := hw.1
  obtain ⟨T, hT, q⟩ := forG (fun m k (s : St) => X11_tells_L171 v1 v2 m (nI k) s) A.n (fun k s => Un [67] S s ∧ ∀ r, r < k → rI s 67 r = k' r) (fun s => Un [67] S s ∧ ∀ r, r < A.n → rI s 67 r = k' r) (fun m s hp' => ⟨s, (bd (rooms_ok (hm.un hp'.1 (by decide) (by decide)))).trans (if_pos (mle hw)), hp'⟩) (fun m k s hk2 hp' => by
    obtain ⟨p1, p2⟩ := hp'
    right
    refine ⟨wI s 67 k (k' k), ?_, p1.trs (Un.wI _ _ _ _ (by simp)), fun r hr => ?_⟩
    · show X11_tells_L171 v1 v2 (m + 1) (nI k) s = X11_tells_L171 v1 v2 m (nI (k + 1)) _
      refine (bd (rooms_ok (hm.un p1 (by decide) (by decide)))).trans ?_
      refine (if_neg (mnle hw hk2)).trans ?_
      refine (bd ((ldA_s s 68 k rfl rfl (by show _ < 8; omega)).trans (congrArg some (((p1 68 (by decide)).1 k).trans (hk k hk2))))).trans ?_
      refine (bd (stA_s s 67 k _ rfl rfl (by show _ < 8; omega))).trans ?_
      rw [nI_1]
    · rw [rI_wI]
      by_cases hrk : r = k
      · rw [if_pos ⟨rfl, hrk⟩, hrk]
      · rw [if_neg (fun z => hrk z.2)]
        exact p2 r (by omega)) A.n FU 0 S (by omega) (FU_lt (by omega)) ⟨Un.rf _ _, fun r hr => absurd hr (Nat.not_lt_zero r)⟩
  exact ⟨T, hT, q⟩
theorem mtell_ok (hm : HM S 61 0 62 0 A) (hw : Wf A) {c : Nat} (hc : c ≤ 7) : ∃ T, X11_tells S (nI c) = some T ∧ Un [67, 68] S T ∧ ∀ r, r < A.n → rI T 67 r = kI A c r := by
  obtain ⟨S1, s1, s2, s3⟩ := mtell1 hm hw (nI c)
  obtain ⟨T, hT, t1, t2⟩ := forG (fun m k (s : St) => X11_tells_L27 (nI c) m (nI (k + 1)) s) c (fun k s => Un [67, 68] S s ∧ ∀ r, r < A.n → rI s 67 r = kI A k r) (fun s => Un [67, 68] S s ∧ ∀ r, r < A.n → rI s 67 r = kI A c r) (fun m s hp' => ⟨s, if_pos (nI_lt (by omega) (by omega)), hp'⟩) (fun m k s hk hp' => by
    obtain ⟨z1, z2⟩ := hp'
    right
    obtain ⟨T, a1, a2, a3⟩ := mtell2 (S := s) (hm.un z1 (by decide) (by decide)) hw (d := k) (by omega) z2 (nI c)
    have zT : Un [67, 68] S T := z1.trs (a2.mono (by simp))
    obtain ⟨U, b1, b2, b3⟩ := mtell3 (S := T) (hm.un zT (by decide) (by decide)) hw (kI A (k + 1)) a3 (nI c) (nI (k + 1))
    refine ⟨U, ?_, zT.trs (b2.mono (by simp)), b3⟩
    show X11_tells_L27 (nI c) (m + 1) (nI (k + 1)) s = X11_tells_L27 (nI c) m (nI (k + 1 + 1)) U
    refine (if_neg (fun z => by have := (nI_ltI (by omega) (by omega)).mp z; omega)).trans ?_
    refine (bd a1).trans ?_
    refine (bd b1).trans ?_
    rw [nI_1]) c FU 0 S1 (by omega) (FU_lt (by omega)) ⟨s2.mono (by simp), s3⟩
  have hT : X11_tells_L27 (nI c) FU 1 S1 = some T := hT
  refine ⟨T, ?_, t1, t2⟩
  unfold X11_tells
  refine (bd s1).trans ?_
  exact bd hT
end MK
theorem st_knows : ∀ (S : St) (a0 : Int32) (a1 : Int32), Inv S → ∃ (r : Int32) (S1 : St) (S2 : St), X10_knows S a0 a1 = some (r, S1) ∧ X11_knows S1 a0 a1 = some (r, S2) ∧ Inv S2 := by
  intro S a b hI
  obtain ⟨⟨A, hw, hx, hm⟩, -, ht, -, hr⟩ := id hI
  have hn := hw.1
  by_cases h1 : 0 ≤ a.toInt ∧ a.toInt < A.n
  · by_cases h2 : 0 ≤ b.toInt ∧ b.toInt ≤ 7
    · obtain ⟨r, hr1, rfl⟩ := i_nat h1.1 h1.2
      obtain ⟨c, hc, rfl⟩ := i_nat (x := b) (n := 8) h2.1 (by omega)
      obtain ⟨T, p, t1, t2, t3, t4, t5, t6⟩ := tell_ok hx hw hr (c := c) (by omega)
      have hmT : HM T 61 0 62 0 A := hm.un t2 (by decide) (by decide)
      obtain ⟨U, u1, u2, u3⟩ := mtell_ok hmT hw (c := c) (by omega)
      refine ⟨kI A c r, T, U, ?_, ?_, ?_⟩
      · unfold X10_knows
        rw [hasG hx hn, if_pos h1, gd (nI c) 0 7 0 7, if_pos h2]
        refine (bd t1).trans ?_
        have : X9_knownTo T (nI r) = some (kI A c r) := by
          unfold X9_knownTo
          rw [t5]
          exact bd ((ldA_s T p r (w34 t4).1 rfl (by rw [(w34 t4).2]; omega)).trans (congrArg some (t6 r hr1)))
        exact bd this
      · unfold X11_knows
        rw [roomG hmT hn, if_pos h1, md T (nI c) 0 7 0 7, if_pos h2]
        refine (bd u1).trans ?_
        exact bd ((ldA_s U 67 r rfl rfl (by show _ < 8; omega)).trans (congrArg some (u3 r hr1)))
      · have hu : Un [32, 33, 34, 67, 68] S U := (t2.mono (by simp)).trs (u2.mono (by simp))
        refine hI.g hu (by decide) hw (hx.un hu (fun k hk => by simp <;> omega)) (hm.un hu (by decide) (by decide)) (ht.un hu ((hu 11 (by decide)).1 0) ((hu 60 (by decide)).1 5) (by decide) (by decide)) (t3.un u2 (by decide) (by decide))
    · refine ⟨-1, S, S, ?_, ?_, hI⟩
      · unfold X10_knows
        rw [hasG hx hn, if_pos h1, gd b 0 7 0 7, if_neg h2]
      · unfold X11_knows
        rw [roomG hm hn, if_pos h1, md S b 0 7 0 7, if_neg h2]
  · refine ⟨-1, S, S, ?_, ?_, hI⟩
    · unfold X10_knows
      rw [hasG hx hn, if_neg h1]
    · unfold X11_knows
      rw [roomG hm hn, if_neg h1]
