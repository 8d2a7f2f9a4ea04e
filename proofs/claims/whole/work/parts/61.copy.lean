theorem cpy1_ok (S : St) {f i n : Nat} (hf : f < 4) (hn : n ≤ 40) (hi : i + n ≤ 40) (v3 v4 : Int32) : ∃ T, X11_copy_L101 (nI f) (nI i) v3 v4 (nI n) FU 0 S = some T ∧ Un [80] S T ∧ ∀ k, k < n → rI T 80 k = rI S 79 (40 * f + i + k) := by
  obtain ⟨T, hT, q⟩ := loopG (fun m (s : Nat × St) => X11_copy_L101 (nI f) (nI i) v3 v4 (nI n) m (nI s.1) s.2) (fun s => n - s.1) (fun s => s.1 ≤ n ∧ Un [80] S s.2 ∧ ∀ k, k < s.1 → rI s.2 80 k = rI S 79 (40 * f + i + k)) (fun T => Un [80] S T ∧ ∀ k, k < n → rI T 80 k = rI S 79 (40 * f + i + k)) (fun m s hp => by
    obtain ⟨p1, p2, p3⟩ := hp
    by_cases hk : s.1 = n
    · left
      refine ⟨s.2, ?_, p2, fun k hk2 => p3 k (by omega)⟩
      show X11_copy_L101 (nI f) (nI i) v3 v4 (nI n) (m + 1) (nI s.1) s.2 = some s.2
      rw [hk]
      exact if_pos (nI_le (Nat.le_refl n) (by omega))
    · right
      refine ⟨(s.1 + 1, wI s.2 80 s.1 (rI S 79 (40 * f + i + s.1))), ?_, ⟨by show s.1 + 1 ≤ n; omega, p2.trs (Un.wI _ _ _ _ (by simp)), fun k hk2 => ?_⟩, by show n - (s.1 + 1) < n - s.1; omega⟩
      · show X11_copy_L101 (nI f) (nI i) v3 v4 (nI n) (m + 1) (nI s.1) s.2 = X11_copy_L101 (nI f) (nI i) v3 v4 (nI n) m (nI (s.1 + 1)) (wI s.2 80 s.1 (rI S 79 (40 * f + i + s.1)))
        refine (if_neg (nI_ge (a := s.1) (b := n) (by omega) (by omega))).trans ?_
        refine (bd ((ldA_s s.2 79 (40 * f + i + s.1) rfl (by rw [show (40 : Int32) = nI 40 from rfl, pk_mul, nI_add, nI_add]) (by show _ < 160; omega)).trans (congrArg some ((p2 79 (by decide)).1 _)))).trans ?_
        refine (bd (stA_s s.2 80 s.1 _ rfl rfl (by show _ < 40; omega))).trans ?_
        rw [nI_1]
      · show rI (wI s.2 80 s.1 (rI S 79 (40 * f + i + s.1))) 80 k = _
        have hk2 : k < s.1 + 1 := hk2
        by_cases hke : k = s.1
        · rw [hke, rI_wI_s]
        · rw [rI_wI_k hke]
          exact p3 k (by omega)) FU (0, S) (FU_lt (by show n - 0 < 2000; omega)) ⟨Nat.zero_le _, Un.rf _ _, fun k hk => absurd hk (Nat.not_lt_zero k)⟩
  exact ⟨T, hT, q⟩
theorem cpy2_ok (S : St) {t j n : Nat} (ht : t < 4) (hn : n ≤ 40) (hj : j + n ≤ 40) : ∃ T, X11_copy_L138 (nI t) (nI j) (nI n) FU 0 S = some T ∧ Un [79] S T ∧ ∀ x, rI T 79 x = if 40 * t + j ≤ x ∧ x < 40 * t + j + n then rI S 80 (x - (40 * t + j)) else rI S 79 x := by
  obtain ⟨T, hT, q⟩ := loopG (fun m (s : Nat × St) => X11_copy_L138 (nI t) (nI j) (nI n) m (nI s.1) s.2) (fun s => n - s.1) (fun s => s.1 ≤ n ∧ Un [79] S s.2 ∧ ∀ x, rI s.2 79 x = if 40 * t + j ≤ x ∧ x < 40 * t + j + s.1 then rI S 80 (x - (40 * t + j)) else rI S 79 x) (fun T => Un [79] S T ∧ ∀ x, rI T 79 x = if 40 * t + j ≤ x ∧ x < 40 * t + j + n then rI S 80 (x - (40 * t + j)) else rI S 79 x) (fun m s hp => by
    obtain ⟨p1, p2, p3⟩ := hp
    by_cases hk : s.1 = n
    · left
      refine ⟨s.2, ?_, p2, fun x => by rw [p3 x, hk]⟩
      show X11_copy_L138 (nI t) (nI j) (nI n) (m + 1) (nI s.1) s.2 = some s.2
      rw [hk]
      exact if_pos (nI_le (Nat.le_refl n) (by omega))
    · right
      refine ⟨(s.1 + 1, wI s.2 79 (40 * t + j + s.1) (rI S 80 s.1)), ?_, ⟨by show s.1 + 1 ≤ n; omega, p2.trs (Un.wI _ _ _ _ (by simp)), fun x => ?_⟩, by show n - (s.1 + 1) < n - s.1; omega⟩
      · show X11_copy_L138 (nI t) (nI j) (nI n) (m + 1) (nI s.1) s.2 = X11_copy_L138 (nI t) (nI j) (nI n) m (nI (s.1 + 1)) (wI s.2 79 (40 * t + j + s.1) (rI S 80 s.1))
        refine (if_neg (nI_ge (a := s.1) (b := n) (by omega) (by omega))).trans ?_
        refine (bd ((ldA_s s.2 80 s.1 rfl rfl (by show _ < 40; omega)).trans (congrArg some ((p2 80 (by decide)).1 _)))).trans ?_
        refine (bd (stA_s s.2 79 (40 * t + j + s.1) _ rfl (by rw [show (40 : Int32) = nI 40 from rfl, pk_mul, nI_add, nI_add]) (by show _ < 160; omega))).trans ?_
        rw [nI_1]
      · show rI (wI s.2 79 (40 * t + j + s.1) (rI S 80 s.1)) 79 x = if 40 * t + j ≤ x ∧ x < 40 * t + j + (s.1 + 1) then _ else _
        rw [rI_wI]
        by_cases hx : x = 40 * t + j + s.1
        · rw [if_pos ⟨rfl, hx⟩, if_pos (by omega), hx, show 40 * t + j + s.1 - (40 * t + j) = s.1 by omega]
        · rw [if_neg (fun z => hx z.2), p3 x]
          by_cases hy : 40 * t + j ≤ x ∧ x < 40 * t + j + s.1
          · rw [if_pos hy, if_pos (by omega)]
          · rw [if_neg hy, if_neg (by omega)]) FU (0, S) (FU_lt (by show n - 0 < 2000; omega)) ⟨Nat.zero_le _, Un.rf _ _, fun x => by
      show rI S 79 x = if 40 * t + j ≤ x ∧ x < 40 * t + j + 0 then _ else _
      rw [if_neg (by omega)]⟩
  exact ⟨T, hT, q⟩
theorem lane_I {S : St} {h : Nat} (hs : Sh S h) : (rI S 77 h < 0 ↔ ¬ (0 : Int32) ≤ rI S 77 h) := by
  rw [i_lt (rI S 77 h) 0 0, i_ge (rI S 77 h) 0 0]
  omega
theorem st_copy : ∀ (S : St) (a0 : Int32) (a1 : Int32) (a2 : Int32) (a3 : Int32) (a4 : Int32), Inv S → ∃ (r : Int32) (S1 : St) (S2 : St), X10_copy S a0 a1 a2 a3 a4 = some (r, S1) ∧ X11_copy S1 a0 a1 a2 a3 a4 = some (r, S2) ∧ Inv S2 := by
  intro S a i b j n hI
  have hs := hI.2.2.2.1
  by_cases h1 : 0 ≤ a.toInt ∧ a.toInt ≤ 3
  · by_cases h2 : 0 ≤ b.toInt ∧ b.toInt ≤ 3
    · obtain ⟨f, hf, rfl⟩ := i_nat (x := a) (n := 4) h1.1 (by omega)
      obtain ⟨t, ht, rfl⟩ := i_nat (x := b) (n := 4) h2.1 (by omega)
      have hF := hs f hf
      have hT := hs t ht
      obtain ⟨⟨fa1, fa2⟩, ⟨z, fb1, fb2, fb3⟩, fc⟩ := id hF
      obtain ⟨⟨ta1, ta2⟩, ⟨y, tb1, tb2, tb3⟩, tc⟩ := id hT
      have eX : X10_copy S (nI f) i (nI t) j n = if rI S (16 + 2 * f) 0 = -1 then some (-11, S) else (X7_refusal S (16 + 2 * t) (rI S (16 + 2 * f) 0)).bind fun x16 => if x16 = 0 then ((X7_holds S (16 + 2 * f) i n).bind fun x20 => if x20 = 0 then some (-13, S) else (X7_holds S (16 + 2 * t) j n).bind fun x26 => if x26 = 0 then some (-13, S) else (cpI S (17 + 2 * f) i (17 + 2 * t) j n).bind fun S32 => some (n, S32)) else some (x16, S) := by
        unfold X10_copy
        rw [shG, if_pos h1, shG, if_pos h2, ldS_s f rfl hf, ldS_s t rfl ht]
        refine (bd (rfl : some (16 + 2 * f) = some (16 + 2 * f))).trans ?_
        refine (bd (ckS hf S)).trans ?_
        split
        · rfl
        · refine (bd (rfl : some (16 + 2 * t) = some (16 + 2 * t))).trans ?_
          refine (bd (ckS hf S)).trans ?_
          refine (bd (ckS ht S)).trans ?_
          congr 1
          funext x
          split
          · refine (bd (ckS hf S)).trans ?_
            congr 1
            funext x
            split
            · rfl
            · refine (bd (rfl : some (16 + 2 * t) = some (16 + 2 * t))).trans ?_
              refine (bd (ckS ht S)).trans ?_
              congr 1
              funext x
              split
              · rfl
              · refine (bd (ckS hf S)).trans ?_
                refine (bd (rfl : some (16 + 2 * t) = some (16 + 2 * t))).trans ?_
                refine (bd (ckS ht S)).trans ?_
                rw [show 16 + 2 * f + 1 = 17 + 2 * f by omega, show 16 + 2 * t + 1 = 17 + 2 * t by omega]
          · rfl
      have eM : ∀ T : St, (∀ x, rI T 77 x = rI S 77 x) → (∀ x, rI T 78 x = rI S 78 x) → X11_copy T (nI f) i (nI t) j n = if rI S 77 f < 0 then some (-11, T) else if (0 : Int32) ≤ rI S 77 t then (if rI S 77 f = rI S 77 t then (if 0 ≤ n.toInt ∧ (0 ≤ i.toInt ∧ i.toInt + n.toInt ≤ z) ∧ (0 ≤ j.toInt ∧ j.toInt + n.toInt ≤ y) then ((X11_copy_L101 (nI f) i (nI t) j n FU 0 T).bind fun S34 => (X11_copy_L138 (nI t) j n FU 0 S34).bind fun S41 => some (n, S41)) else some (-13, T)) else some (-12, T)) else some (-11, T) := fun T h77 h78 => by
        unfold X11_copy
        rw [mshG, if_pos h1, mshG, if_pos h2]
        have l1 : ldA T 77 (nI f) = some (rI S 77 f) := (ldA_s T 77 f rfl rfl (by show _ < 4; omega)).trans (congrArg some (h77 f))
        have l2 : ldA T 77 (nI t) = some (rI S 77 t) := (ldA_s T 77 t rfl rfl (by show _ < 4; omega)).trans (congrArg some (h77 t))
        refine (bd l1).trans ?_
        by_cases k1 : rI S 77 f < 0
        · rw [if_pos k1, if_pos k1]
        · have k1' : (0 : Int32) ≤ rI S 77 f := Decidable.byContradiction (fun w => k1 ((lane_I hF).mpr w))
          rw [if_neg k1, if_neg k1]
          refine (bd l2).trans ?_
          by_cases k2 : (0 : Int32) ≤ rI S 77 t
          · rw [if_pos k2, if_pos k2]
            refine (bd l1).trans ?_
            refine (bd l2).trans ?_
            by_cases k3 : rI S 77 f = rI S 77 t
            · rw [if_pos k3, if_pos k3]
              by_cases k4 : n < 0
              · have := (i_lt n 0 0).mp k4
                rw [if_pos k4, if_neg (by omega)]
              · have k4' : ¬ n.toInt < 0 := fun w => k4 ((i_lt n 0 0).mpr w)
                rw [if_neg k4]
                refine (bd l1).trans ?_
                rw [finds_ok hf fb1 ((h78 f).trans fb3) (rI S 77 f) i n, h77, if_pos k1', if_pos rfl]
                by_cases k5 : 0 ≤ i.toInt ∧ i.toInt + n.toInt ≤ z
                · rw [if_pos k5]
                  refine (bd (rfl : some (0 : Int32) = some 0)).trans ?_
                  refine (if_neg (by decide)).trans ?_
                  refine (bd l2).trans ?_
                  rw [finds_ok ht tb1 ((h78 t).trans tb3) (rI S 77 t) j n, h77, if_pos k2, if_pos rfl]
                  by_cases k6 : 0 ≤ j.toInt ∧ j.toInt + n.toInt ≤ y
                  · rw [if_pos k6, if_pos ⟨by omega, k5, k6⟩]
                    rfl
                  · rw [if_neg k6, if_neg (fun w => k6 w.2.2)]
                    rfl
                · rw [if_neg k5, if_neg (fun w => k5 w.2.1)]
                  rfl
            · rw [if_neg k3, if_neg k3]
          · rw [if_neg k2, if_neg k2]
      have hne : rI S (16 + 2 * f) 0 = -1 ↔ rI S 77 f < 0 := by
        rw [lane_I hF]
        rcases lane_neg hF with ⟨n1, n2, n3⟩ | ⟨n1, n3⟩
        · exact ⟨fun _ => n3, fun _ => n1⟩
        · exact ⟨fun w => absurd w n1, fun w => absurd n3 w⟩
      by_cases k1 : rI S 77 f < 0
      · refine ⟨-11, S, S, ?_, ?_, hI⟩
        · rw [eX, if_pos (hne.mpr k1)]
        · rw [eM S (fun _ => rfl) (fun _ => rfl), if_pos k1]
      · rw [if_neg (fun w => k1 (hne.mp w)), refusal_ok ht hT, fa1] at eX
        by_cases k2 : (0 : Int32) ≤ rI S 77 t
        · by_cases k3 : rI S 77 f = rI S 77 t
          · rw [if_pos k2, if_pos k3.symm] at eX
            have eX : X10_copy S (nI f) i (nI t) j n = (X7_holds S (16 + 2 * f) i n).bind fun x20 => if x20 = 0 then some (-13, S) else (X7_holds S (16 + 2 * t) j n).bind fun x26 => if x26 = 0 then some (-13, S) else (cpI S (17 + 2 * f) i (17 + 2 * t) j n).bind fun S32 => some (n, S32) := eX
            rw [holds_ok hf fb1 fb2 i n] at eX
            by_cases k4 : 0 ≤ n.toInt ∧ (0 ≤ i.toInt ∧ i.toInt + n.toInt ≤ z) ∧ (0 ≤ j.toInt ∧ j.toInt + n.toInt ≤ y)
            · rw [if_pos (by omega)] at eX
              have eX : X10_copy S (nI f) i (nI t) j n = (X7_holds S (16 + 2 * t) j n).bind fun x26 => if x26 = 0 then some (-13, S) else (cpI S (17 + 2 * f) i (17 + 2 * t) j n).bind fun S32 => some (n, S32) := eX
              rw [holds_ok ht tb1 tb2 j n, if_pos (by omega)] at eX
              have eX : X10_copy S (nI f) i (nI t) j n = (cpI S (17 + 2 * f) i (17 + 2 * t) j n).bind fun S32 => some (n, S32) := eX
              obtain ⟨i', hi', rfl⟩ := i_nat (x := i) (n := 41) (by omega) (by omega)
              obtain ⟨j', hj', rfl⟩ := i_nat (x := j) (n := 41) (by omega) (by omega)
              obtain ⟨n', hn', rfl⟩ := i_nat (x := n) (n := 41) (by omega) (by omega)
              rw [nT (by omega), nT (by omega), nT (by omega)] at k4
              obtain ⟨T, eT⟩ : ∃ T, T = cI S (17 + 2 * f) i' (17 + 2 * t) j' n' := ⟨_, rfl⟩
              have uT : Un [17 + 2 * t] S T := by rw [eT]; exact Un.cI S _ _ _ _ _ (by simp)
              have eC : cpI S (17 + 2 * f) (nI i') (17 + 2 * t) (nI j') (nI n') = some T := by
                obtain ⟨-, f1, f2, f3⟩ := sh_st hf S
                obtain ⟨-, t1, t2, t3⟩ := sh_st ht S
                unfold cpI
                rw [nI_clamp (by omega), nI_clamp (by omega), nI_clamp (by omega), eT]
                exact if_pos ⟨⟨f1, f3⟩, ⟨t1, t3⟩, ⟨nI_pos (by omega), nI_pos (by omega), nI_pos (by omega)⟩, by rw [f2]; omega, by rw [t2]; omega⟩
              obtain ⟨U, eU, uU, gU⟩ := cpy1_ok T (f := f) (i := i') (n := n') hf (by omega) (by omega) (nI t) (nI j')
              obtain ⟨V, eV, uV, gV⟩ := cpy2_ok U (t := t) (j := j') (n := n') ht (by omega) (by omega)
              refine ⟨nI n', T, V, ?_, ?_, ?_⟩
              · rw [eX, eC]
                rfl
              · rw [eM T (uT 77 (by simp <;> omega)).1 (uT 78 (by simp <;> omega)).1, if_neg k1, if_pos k2, if_pos k3, if_pos (by rw [nT (by omega), nT (by omega), nT (by omega)]; exact k4)]
                refine (bd eU).trans ?_
                exact bd eV
              · have hu : Un [17 + 2 * t, 80, 79] S V := ((uT.mono (by simp)).trs (uU.mono (by simp))).trs (uV.mono (by simp))
                have hx : ∀ x, x ≠ 17 + 2 * t → x ≠ 80 → x ≠ 79 → ∀ q, rI V x q = rI S x q := fun x a1 a2 a3 => (hu x (by simp <;> omega)).1
                refine hI.s hu ?_ ?_
                · have : t = 0 ∨ t = 1 ∨ t = 2 ∨ t = 3 := by omega
                  rcases this with rfl | rfl | rfl | rfl <;> decide
                · intro g hg
                  obtain ⟨⟨a1, a2⟩, ⟨z', c1, c2, c3⟩, c⟩ := hs g hg
                  refine ⟨⟨?_, ?_⟩, ⟨z', c1, ?_, ?_⟩, fun k hk => ?_⟩
                  · rw [hx _ (by omega) (by omega) (by omega), hx 77 (by omega) (by omega) (by omega)]
                    exact a1
                  · rw [hx 77 (by omega) (by omega) (by omega)]
                    exact a2
                  · rw [hx _ (by omega) (by omega) (by omega)]
                    exact c2
                  · rw [hx 78 (by omega) (by omega) (by omega)]
                    exact c3
                  · have v79 : rI V 79 (40 * g + k) = if 40 * t + j' ≤ 40 * g + k ∧ 40 * g + k < 40 * t + j' + n' then rI S 79 (40 * f + i' + (40 * g + k - (40 * t + j'))) else rI S 79 (40 * g + k) := by
                      rw [gV]
                      split
                      · rw [gU _ (by omega), (uT 79 (by simp <;> omega)).1]
                      · rw [(uU 79 (by decide)).1, (uT 79 (by simp <;> omega)).1]
                    rw [v79]
                    by_cases hgt : g = t
                    · subst hgt
                      have w : rI V (17 + 2 * g) k = va_cpy (rI S (17 + 2 * f)) (rI S (17 + 2 * g)) i' j' n' k := by
                        rw [(uV _ (by simp <;> omega)).1, (uU _ (by simp <;> omega)).1, eT]
                        exact if_pos rfl
                      rw [w]
                      by_cases hin : j' ≤ k ∧ k < j' + n'
                      · rw [pk_cpy_in hin.1 hin.2, if_pos (by omega), fc _ (by omega)]
                        congr 1
                        omega
                      · rw [pk_cpy_out (by omega), if_neg (by omega)]
                        exact c k hk
                    · rw [if_neg (by omega), hx _ (by omega) (by omega) (by omega)]
                      exact c k hk
            · refine ⟨-13, S, S, ?_, ?_, hI⟩
              · rw [eX]
                by_cases k5 : 0 ≤ i.toInt ∧ 0 ≤ n.toInt ∧ i.toInt + n.toInt ≤ z
                · rw [if_pos k5]
                  show ((X7_holds S (16 + 2 * t) j n).bind fun x26 => if x26 = 0 then some (-13, S) else (cpI S (17 + 2 * f) i (17 + 2 * t) j n).bind fun S32 => some (n, S32)) = _
                  rw [holds_ok ht tb1 tb2 j n, if_neg (by omega)]
                  rfl
                · rw [if_neg k5]
                  rfl
              · rw [eM S (fun _ => rfl) (fun _ => rfl), if_neg k1, if_pos k2, if_pos k3, if_neg k4]
          · rw [if_pos k2, if_neg (fun w => k3 w.symm)] at eX
            refine ⟨-12, S, S, eX, ?_, hI⟩
            rw [eM S (fun _ => rfl) (fun _ => rfl), if_neg k1, if_pos k2, if_neg k3]
        · rw [if_neg k2] at eX
          refine ⟨-11, S, S, eX, ?_, hI⟩
          rw [eM S (fun _ => rfl) (fun _ => rfl), if_neg k1, if_neg k2]
    · refine ⟨-1, S, S, ?_, ?_, hI⟩
      · unfold X10_copy
        rw [shG, if_pos h1, shG, if_neg h2]
      · unfold X11_copy
        rw [mshG, if_pos h1, mshG, if_neg h2]
  · refine ⟨-1, S, S, ?_, ?_, hI⟩
    · unfold X10_copy
      rw [shG, if_neg h1]
    · unfold X11_copy
      rw [mshG, if_neg h1]
