theorem rI_cF_s (S : St) (f : Nat → Int32) (sp a dp n j : Nat) : rI (cF S f sp a dp n) a j = va_cpy f (rI S a) sp dp n j := if_pos rfl
theorem cpF_s (S : St) (f : Nat → Int32) (a1 k m : Nat) {dp n : Int32} (hs : stat 1 a1 = true) (hd : dp = nI k) (hn : n = nI m) (hm : m ≤ 6) (hk : k + m ≤ kl a1) : cpF S f 0 a1 dp n = some (cF S f 0 a1 k m) := by
  subst hd
  subst hn
  have := kl_le a1
  unfold cpF
  have e0 : (0 : Int32).toNatClampNeg = 0 := rfl
  rw [nI_clamp (by omega), nI_clamp (by omega), e0]
  exact if_pos ⟨stat_s hs S, ⟨by decide, nI_pos (by omega), nI_pos (by omega)⟩, by omega, by omega⟩
theorem st_room : ∀ (S : St) (a0 : Int32), Inv S → ∃ (r : Int32) (S1 : St) (S2 : St), X10_room S a0 = some (r, S1) ∧ X11_room S1 a0 = some (r, S2) ∧ Inv S2 := by
  intro S a hI
  obtain ⟨⟨A, hw, hx, hm⟩, -⟩ := id hI
  have hn := hw.1
  have ex : rI S 2 0 = nI A.n := hx.1.1
  have em : rI S 61 0 = nI A.n := hm.1.1
  by_cases h : 0 ≤ a.toInt ∧ a.toInt ≤ 5
  · by_cases h8 : A.n = 8
    · refine ⟨-3, S, S, ?_, ?_, hI⟩
      · unfold X10_room
        rw [gd a 0 5 0 5, if_pos h, ex, h8]
        rfl
      · unfold X11_room
        rw [md S a 0 5 0 5, if_pos h]
        refine (bd (rooms_ok hm)).trans ?_
        rw [h8]
        rfl
    · obtain ⟨k, hk, rfl⟩ := i_nat (x := a) (n := 6) h.1 (by omega)
      have hlt : A.n < 8 := by omega
      have hne : ¬ nI A.n = 8 := fun z => h8 ((nI_eq (by omega) (by omega)).mp (z : nI A.n = nI 8))
      obtain ⟨T, eT⟩ : ∃ T, T = wI (cF (wI S 2 0 (nI (A.n + 1))) FIRSTV 0 3 (6 * A.n) 6) 3 (6 * A.n + 0) (nI k) := ⟨_, rfl⟩
      have uT : Un [2, 3] S T := by
        rw [eT]
        exact ((Un.wI S 2 _ _ (by simp)).trs (Un.cF _ _ _ 3 _ _ (by simp))).trs (Un.wI _ 3 _ _ (by simp))
      have S1e : X6_add S (nI k) = some (nI A.n, T) := by
        unfold X6_add
        rw [ex]
        refine (bd (show stF S 2 0 (nI A.n + 1) = some (wI S 2 0 (nI (A.n + 1))) by rw [nI_1]; rfl)).trans ?_
        refine (bd (cpF_s _ FIRSTV 3 (6 * A.n) 6 rfl (by rw [show (6 : Int32) = nI 6 from rfl, pk_mul, Nat.mul_comm]) rfl (by omega) (by show _ ≤ 48; omega))).trans ?_
        refine (bd (stA_s _ 3 (6 * A.n + 0) _ rfl (ix2 6 A.n 0) (by show _ < 48; omega))).trans ?_
        rw [eT]
      have mT : ∀ j, rI T 61 j = rI S 61 j := (uT 61 (by decide)).1
      have i1 : ∀ c, c ≤ 2 → (8 + 6 * nI A.n) + nI c = nI (8 + 6 * A.n + c) := fun c _ => ix3 8 6 A.n c
      obtain ⟨V, eV⟩ : ∃ V, V = wI (wI (wI (wI T 61 (8 + 6 * A.n) (nI k)) 61 (8 + 6 * A.n + 1) 10) 61 (8 + 6 * A.n + 2) 50) 61 0 (nI (A.n + 1)) := ⟨_, rfl⟩
      have eM : X11_room T (nI k) = some (nI A.n, V) := by
        unfold X11_room
        rw [md T (nI k) 0 5 0 5, if_pos h]
        have r1 : X11_rooms T = some (nI A.n) := (bd (ldA_s T 61 0 rfl rfl (by decide))).trans (congrArg some ((mT 0).trans em))
        refine (bd r1).trans ?_
        refine (if_neg hne).trans ?_
        refine (bd r1).trans ?_
        refine (bd (stA_s T 61 (8 + 6 * A.n) _ rfl (by rw [show (8 : Int32) = nI 8 from rfl, show (6 : Int32) = nI 6 from rfl, pk_mul, nI_add]) (by show _ < 648; omega))).trans ?_
        refine (bd (stA_s _ 61 (8 + 6 * A.n + 1) _ rfl (i1 1 (by omega)) (by show _ < 648; omega))).trans ?_
        refine (bd (stA_s _ 61 (8 + 6 * A.n + 2) _ rfl (i1 2 (by omega)) (by show _ < 648; omega))).trans ?_
        have r2 : rI (wI (wI (wI T 61 (8 + 6 * A.n) (nI k)) 61 (8 + 6 * A.n + 1) 10) 61 (8 + 6 * A.n + 2) 50) 61 0 = nI A.n := by
          rw [rI_wI_k (by omega), rI_wI_k (by omega), rI_wI_k (by omega), mT, em]
        refine (bd ((ldA_s _ 61 0 rfl rfl (by decide)).trans (congrArg some r2))).trans ?_
        refine (bd (stA_s _ 61 0 _ rfl rfl (by decide))).trans ?_
        rw [nI_1, ← eV]
        have r3 : X11_rooms V = some (nI (A.n + 1)) := (bd (ldA_s V 61 0 rfl rfl (by decide))).trans (congrArg some (by rw [eV, rI_wI_s]))
        refine (bd r3).trans ?_
        rw [nI_pred]
      refine ⟨nI A.n, T, V, ?_, eM, ?_⟩
      · unfold X10_room
        rw [gd (nI k) 0 5 0 5, if_pos h, ex, if_neg hne, S1e]
        rfl
      · have uV : Un [61] T V := by
          rw [eV]
          exact (((Un.wI T 61 _ _ (by simp)).trs (Un.wI _ 61 _ _ (by simp))).trs (Un.wI _ 61 _ _ (by simp))).trs (Un.wI _ 61 _ _ (by simp))
        have hu : Un [2, 3, 61] S V := (uT.mono (M := [2, 3, 61]) (fun x hx => by simp at hx ⊢; omega)).trs (uV.mono (fun x hx => by simp at hx ⊢; omega))
        have vX : ∀ x, x ≠ 61 → ∀ j, rI V x j = rI T x j := fun x hx => (uV x (by simpa using hx)).1
        have vM : ∀ j, rI V 61 j = if j = 0 then nI (A.n + 1) else if j = 8 + 6 * A.n + 2 then 50 else if j = 8 + 6 * A.n + 1 then 10 else if j = 8 + 6 * A.n then nI k else rI S 61 j := fun j => by
          rw [eV, rI_wI, rI_wI, rI_wI, rI_wI, mT]
          simp only [true_and]
        refine hI.a hu (by decide) (A := (A.n + 1, fun r w => if r = A.n then (if w = 0 then k else if w = 1 then 10 else if w = 2 then 50 else 0) else A.val r w, A.wire, A.lo, A.pace, A.fit, A.most, A.len, A.snd, A.ln, A.los)) ?_ ?_ ?_
        · obtain ⟨w1, w2, w3⟩ := hw
          refine ⟨(by show A.n + 1 ≤ 8; omega), fun r w g1 g2 => ?_, w3⟩
          show (if r = A.n then (if w = 0 then k else if w = 1 then 10 else if w = 2 then 50 else 0) else A.val r w) ≤ mostN w
          have g1 : r < A.n + 1 := g1
          by_cases z : r = A.n
          · rw [if_pos z]
            have : w = 0 ∨ w = 1 ∨ w = 2 ∨ w = 3 ∨ w = 4 ∨ w = 5 := by omega
            rcases this with rfl | rfl | rfl | rfl | rfl | rfl
            · show k ≤ 5; omega
            · show 10 ≤ 99; omega
            · show 50 ≤ 100; omega
            · show 0 ≤ 999; omega
            · show 0 ≤ 400; omega
            · show 0 ≤ 63; omega
          · rw [if_neg z]
            exact w2 r w (by omega) g2
        · have e2 : ∀ j, j ≠ 0 → rI V 2 j = rI S 2 j := fun j hj => by
            rw [vX 2 (by decide), eT, rI_wI_a (by decide)]
            show rI (wI S 2 0 (nI (A.n + 1))) 2 j = _
            rw [rI_wI_k hj]
          have e0 : rI V 2 0 = nI (A.n + 1) := by
            rw [vX 2 (by decide), eT, rI_wI_a (by decide)]
            rfl
          have eo : ∀ x, x ≠ 2 → x ≠ 3 → x ≠ 61 → ∀ j, rI V x j = rI S x j := fun x h1 h2 h3 => (hu x (by simp; omega)).1
          obtain ⟨⟨q1, q2, q3, q4, q5, q6⟩, q7, q8, q9, q10, q11⟩ := hx
          refine ⟨⟨e0, (e2 1 (by decide)).trans q2, (e2 2 (by decide)).trans q3, (eo 1 (by decide) (by decide) (by decide) 3).trans q4, (eo 6 (by decide) (by decide) (by decide) 0).trans q5, (eo 8 (by decide) (by decide) (by decide) 0).trans q6⟩, fun r w g1 g2 => ?_, fun f t g1 g2 => (eo 4 (by decide) (by decide) (by decide) _).trans (q8 f t g1 g2), fun d f g1 g2 => (eo 5 (by decide) (by decide) (by decide) _).trans (q9 d f g1 g2), fun j g => (eo 7 (by decide) (by decide) (by decide) _).trans (q10 j g), fun j g => ((hu 9 (by decide)).2.1 j).trans (q11 j g)⟩
          have g1 : r < A.n + 1 := g1
          show rI V 3 (6 * r + w) = nI (if r = A.n then (if w = 0 then k else if w = 1 then 10 else if w = 2 then 50 else 0) else A.val r w)
          rw [vX 3 (by decide), eT, rI_wI]
          by_cases z : r = A.n
          · rw [if_pos z, z]
            have hw5 : w = 0 ∨ w = 1 ∨ w = 2 ∨ w = 3 ∨ w = 4 ∨ w = 5 := by omega
            by_cases hw0 : w = 0
            · rw [if_pos ⟨rfl, by omega⟩, if_pos hw0]
            · rw [if_neg (fun y => hw0 (by omega))]
              rw [rI_cF_s, pk_cpy_in (by omega) (by omega), show 0 + (6 * A.n + w - 6 * A.n) = w by omega]
              rcases hw5 with rfl | rfl | rfl | rfl | rfl | rfl
              · exact absurd rfl hw0
              · rfl
              · rfl
              · rfl
              · rfl
              · rfl
          · rw [if_neg z, if_neg (fun y => z (by omega))]
            rw [rI_cF_s, pk_cpy_out (by omega)]
            exact q7 r w (by omega) g2
        · have eM2 : ∀ j, j ≠ 0 → j ≠ 8 + 6 * A.n → j ≠ 8 + 6 * A.n + 1 → j ≠ 8 + 6 * A.n + 2 → rI V 61 j = rI S 61 j := fun j a1 a2 a3 a4 => by
            rw [vM, if_neg a1, if_neg a4, if_neg a3, if_neg a2]
          obtain ⟨⟨q1, q2, q3, q4, q5, q6⟩, q7, q8, q9, q10, q11, q12⟩ := hm
          have hl := hw.2.2.2.2.2.2.2.1
          refine ⟨⟨by rw [vM, if_pos rfl], (eM2 _ (by omega) (by omega) (by omega) (by omega)).trans q2, (eM2 _ (by omega) (by omega) (by omega) (by omega)).trans q3, (eM2 _ (by omega) (by omega) (by omega) (by omega)).trans q4, (eM2 _ (by omega) (by omega) (by omega) (by omega)).trans q5, (eM2 _ (by omega) (by omega) (by omega) (by omega)).trans q6⟩, fun r w g1 g2 => ?_, fun r w g1 g2 g3 g4 => ?_, fun f t g1 g2 => (eM2 _ (by omega) (by omega) (by omega) (by omega)).trans (q9 f t g1 g2), fun d f t g1 g2 g3 => (eM2 _ (by omega) (by omega) (by omega) (by omega)).trans (q10 d f t g1 g2 g3), fun j g => (eM2 _ (by omega) (by omega) (by omega) (by omega)).trans (q11 j g), fun j g => ((hu 62 (by decide)).2.1 _).trans (q12 j g)⟩
          · have g1 : r < A.n + 1 := g1
            show rI V 61 (0 + 8 + 6 * r + w) = nI (if r = A.n then (if w = 0 then k else if w = 1 then 10 else if w = 2 then 50 else 0) else A.val r w)
            by_cases z : r = A.n
            · rw [if_pos z, z]
              have hw5 : w = 0 ∨ w = 1 ∨ w = 2 ∨ 3 ≤ w := by omega
              rcases hw5 with rfl | rfl | rfl | hw3
              · rw [vM, if_neg (by omega), if_neg (by omega), if_neg (by omega), if_pos (by omega)]
                rfl
              · rw [vM, if_neg (by omega), if_neg (by omega), if_pos (by omega)]
                rfl
              · rw [vM, if_neg (by omega), if_pos (by omega)]
                rfl
              · rw [if_neg (by omega), if_neg (by omega), if_neg (by omega), eM2 _ (by omega) (by omega) (by omega) (by omega)]
                exact q8 A.n w (Nat.le_refl _) hlt hw3 g2
            · rw [if_neg z, eM2 _ (by omega) (by omega) (by omega) (by omega)]
              exact q7 r w (by omega) g2
          · have g1 : A.n + 1 ≤ r := g1
            rw [eM2 _ (by omega) (by omega) (by omega) (by omega)]
            exact q8 r w (by omega) g2 g3 g4
  · refine ⟨-1, S, S, ?_, ?_, hI⟩
    · unfold X10_room
      rw [gd a 0 5 0 5, if_neg h]
    · unfold X11_room
      rw [md S a 0 5 0 5, if_neg h]
theorem lostR {S : St} {A : Ch} (hx : HX S 1 A) {d f t : Nat} (hd : d < 7) (hf : f < 8) (ht : t < 8) : X6_losesWord S (nI (d + 1)) (nI f) (nI t) = some (if A.lo d f t then 1 else 0) := by
  unfold X6_losesWord
  have hl := mask_lt (A.lo d f) 8
  have e1 : (nI (d + 1) - 1) * 8 + nI f = nI (8 * d + f) := by rw [nI_pred]; exact ix2 8 d f
  refine (bd ((ldA_s S 5 (8 * d + f) rfl e1 (by show _ < 56; omega)).trans (congrArg some (hx.2.2.2.1 d f hd hf)))).trans ?_
  rw [(bits8 hl ht).2.2.1, mask_tb]
  simp only [ht, decide_true, Bool.true_and]
  cases A.lo d f t <;> rfl
theorem st_lose : ∀ (S : St) (a0 : Int32) (a1 : Int32) (a2 : Int32) (a3 : Int32), (a3 = 0 ∨ a3 = 1) → Inv S → ∃ (r : Int32) (S1 : St) (S2 : St), X10_lose S a0 a1 a2 a3 = some (r, S1) ∧ X11_lose S1 a0 a1 a2 a3 = some (r, S2) ∧ Inv S2 := by
  intro S c a b v hv hI
  obtain ⟨⟨A, hw, hx, hm⟩, -⟩ := id hI
  have hn := hw.1
  have eX : X10_lose S c a b v = if 1 ≤ c.toInt ∧ c.toInt ≤ 7 then (if (0 ≤ a.toInt ∧ a.toInt < A.n) ∧ (0 ≤ b.toInt ∧ b.toInt < A.n) ∧ ¬ a = b then (X6_loseWord S c a b v).bind (fun (x7, S8) => some (x7, S8)) else some (-1, S)) else some (-1, S) := by
    unfold X10_lose
    rw [gd2 c 1 7 1 7, hasTwoG hx hn a b]
  have eM : ∀ T : St, HM T 61 0 62 0 A → X11_lose T c a b v = if 1 ≤ c.toInt ∧ c.toInt ≤ 7 then (if (0 ≤ a.toInt ∧ a.toInt < A.n) ∧ (0 ≤ b.toInt ∧ b.toInt < A.n) ∧ ¬ a = b then ((ldA T 61 (((200 + (64 * (c - 1))) + (8 * a)) + b)).bind fun x11 => (if v = 0 then some (0 : Int32) else some (1 : Int32)).bind fun x14 => (stA T 61 (((200 + (64 * (c - 1))) + (8 * a)) + b) x14).bind fun S17 => some (x11, S17)) else some (-1, T)) else some (-1, T) := fun T hT => by
    unfold X11_lose
    rw [md T c 1 7 1 7]
    split
    · exact roomsG hT hn a b
    · rfl
  by_cases h0 : 1 ≤ c.toInt ∧ c.toInt ≤ 7
  · by_cases h1 : (0 ≤ a.toInt ∧ a.toInt < A.n) ∧ (0 ≤ b.toInt ∧ b.toInt < A.n) ∧ ¬ a = b
    · obtain ⟨d1, hd1, rfl⟩ := i_nat (x := c) (n := 8) (by omega) (by omega)
      obtain ⟨f, hf, rfl⟩ := i_nat h1.1.1 h1.1.2
      obtain ⟨t, ht, rfl⟩ := i_nat h1.2.1.1 h1.2.1.2
      rw [nT (by omega)] at h0
      obtain ⟨d, rfl⟩ : ∃ d, d1 = d + 1 := ⟨d1 - 1, by omega⟩
      have hd : d < 7 := by omega
      have ht8 : t < 8 := by omega
      have hf8 : f < 8 := by omega
      have hl := mask_lt (A.lo d f) 8
      have hv2 : (v = 0) = (decide (v = 0) = true) := by simp
      obtain ⟨w, ew⟩ : ∃ w, w = wI S 5 (8 * d + f) (nI (mask (fun s => if s = t then !decide (v = 0) else A.lo d f s) 8)) := ⟨_, rfl⟩
      have e1 : (nI (d + 1) - 1) * 8 + nI f = nI (8 * d + f) := by rw [nI_pred]; exact ix2 8 d f
      have e2 : ((200 + (64 * (nI (d + 1) - 1))) + (8 * nI f)) + nI t = nI (200 + 64 * d + 8 * f + t) := by
        rw [nI_pred, show (200 : Int32) = nI 200 from rfl, show (64 : Int32) = nI 64 from rfl, show (8 : Int32) = nI 8 from rfl, pk_mul, pk_mul, nI_add, nI_add, nI_add]
      have x5 := hx.2.2.2.1 d f hd hf8
      have eL : X6_loseWord S (nI (d + 1)) (nI f) (nI t) v = some (if A.lo d f t then 1 else 0, w) := by
        unfold X6_loseWord
        refine (bd (lostR hx hd hf8 ht8)).trans ?_
        refine (bd (a := if A.lo d f t then 1 else 0) (by cases A.lo d f t <;> rfl)).trans ?_
        have e3 : (if v = 0 then (ldA S 5 (((nI (d + 1) - 1) * 8) + nI f)).bind fun x13 => some (x13 &&& ((1 <<< (nI t &&& 31)) ^^^ (-1))) else (ldA S 5 (((nI (d + 1) - 1) * 8) + nI f)).bind fun x15 => some (x15 ||| (1 <<< (nI t &&& 31)))) = some (nI (mask (fun s => if s = t then !decide (v = 0) else A.lo d f s) 8)) := by
          rw [ldA_s S 5 (8 * d + f) rfl e1 (by show _ < 56; omega), show rI S 5 (8 * d + f) = _ from x5]
          by_cases hz : v = 0
          · rw [if_pos hz]
            show some (nI (mask (A.lo d f) 8) &&& ((1 <<< (nI t &&& 31)) ^^^ (-1))) = _
            rw [(bits8 hl ht8).2.1, mask_set _ ht8, hz]
            rfl
          · rw [if_neg hz]
            show some (nI (mask (A.lo d f) 8) ||| (1 <<< (nI t &&& 31))) = _
            rw [(bits8 hl ht8).1, mask_set _ ht8, if_pos (by simp [hz])]
        refine (bd e3).trans ?_
        refine (bd (stA_s S 5 (8 * d + f) _ rfl e1 (by show _ < 56; omega))).trans ?_
        rw [ew]
      have uw : Un [5] S w := by rw [ew]; exact Un.wI S 5 _ _ (by simp)
      have hm1 : HM w 61 0 62 0 A := hm.un uw (by decide) (by decide)
      have m1 := hm1.2.2.2.2.1 d f t hd hf8 ht8
      rw [show 0 + 200 + 64 * d + 8 * f + t = 200 + 64 * d + 8 * f + t by omega] at m1
      refine ⟨if A.lo d f t then 1 else 0, w, wI w 61 (200 + 64 * d + 8 * f + t) (if v = 0 then 0 else 1), ?_, ?_, ?_⟩
      · rw [eX, if_pos (by rw [nT (by omega)]; exact h0), if_pos h1, eL]
        rfl
      · rw [eM w hm1, if_pos (by rw [nT (by omega)]; exact h0), if_pos h1]
        refine (bd ((ldA_s w 61 (200 + 64 * d + 8 * f + t) rfl e2 (by show _ < 648; omega)).trans (congrArg some m1))).trans ?_
        refine (bd (a := if v = 0 then 0 else 1) (by split <;> rfl)).trans ?_
        exact bd (stA_s w 61 (200 + 64 * d + 8 * f + t) _ rfl e2 (by show _ < 648; omega))
      · have hu : Un [5, 61] S (wI w 61 (200 + 64 * d + 8 * f + t) (if v = 0 then 0 else 1)) := (uw.mono (M := [5, 61]) (by simp)).trs (Un.wI _ 61 _ _ (by simp))
        refine hI.a hu (by decide) (A := (A.n, A.val, A.wire, fun d' f' t' => if d' = d ∧ f' = f ∧ t' = t then !decide (v = 0) else A.lo d' f' t', A.pace, A.fit, A.most, A.len, A.snd, A.ln, A.los)) ?_ ?_ ?_
        · obtain ⟨w1, w2, w3, w4, w5⟩ := hw
          exact ⟨w1, w2, w3, w4, w5⟩
        · obtain ⟨q1, q2, q3, q4, q5, q6⟩ := hx
          have eo : ∀ x, x ≠ 5 → x ≠ 61 → ∀ j, rI (wI w 61 (200 + 64 * d + 8 * f + t) (if v = 0 then 0 else 1)) x j = rI S x j := fun x h1 h2 => (hu x (by simp; omega)).1
          refine ⟨⟨(eo 2 (by decide) (by decide) _).trans q1.1, (eo 2 (by decide) (by decide) _).trans q1.2.1, (eo 2 (by decide) (by decide) _).trans q1.2.2.1, (eo 1 (by decide) (by decide) _).trans q1.2.2.2.1, (eo 6 (by decide) (by decide) _).trans q1.2.2.2.2.1, (eo 8 (by decide) (by decide) _).trans q1.2.2.2.2.2⟩, fun r w g1 g2 => (eo 3 (by decide) (by decide) _).trans (q2 r w g1 g2), fun r w g1 g2 => (eo 4 (by decide) (by decide) _).trans (q3 r w g1 g2), fun d' f' g1 g2 => ?_, fun k g => (eo 7 (by decide) (by decide) _).trans (q5 k g), fun k g => ((hu 9 (by decide)).2.1 k).trans (q6 k g)⟩
          show rI (wI w 61 _ _) 5 (8 * d' + f') = _
          rw [rI_wI_a (by decide), ew, rI_wI]
          by_cases z : d' = d ∧ f' = f
          · rw [if_pos ⟨rfl, by omega⟩]
            congr 1
            refine mask_cong 8 (fun s hs => ?_)
            show (if s = t then _ else A.lo d f s) = if d' = d ∧ f' = f ∧ s = t then _ else A.lo d' f' s
            rw [z.1, z.2]
            by_cases zs : s = t
            · rw [if_pos zs, if_pos ⟨rfl, rfl, zs⟩]
            · rw [if_neg zs, if_neg (fun y => zs y.2.2)]
          · rw [if_neg (fun y => z (by omega)), q4 d' f' g1 g2]
            congr 1
            refine mask_cong 8 (fun s hs => ?_)
            show A.lo d' f' s = if d' = d ∧ f' = f ∧ s = t then _ else A.lo d' f' s
            rw [if_neg (fun y => z ⟨y.1, y.2.1⟩)]
        · have e : ∀ j, j ≠ 200 + 64 * d + 8 * f + t → rI (wI w 61 (200 + 64 * d + 8 * f + t) (if v = 0 then 0 else 1)) 61 j = rI w 61 j := fun j hj => rI_wI_k hj
          obtain ⟨⟨p0, p128, p131, p129, p130, p132⟩, pv, pz, pw, pl, ps⟩ := hm1.put (200 + 64 * d + 8 * f + t) e
          have hl := hw.2.2.2.2.2.2.2.1
          refine ⟨⟨p0 (by omega), p128 (by omega), p131 (by omega), p129 (by omega), p130 (by omega), p132 (by omega)⟩, fun r w hr hw' => pv r w hr hw' (by have hr : r < A.n := hr; omega), fun r w g1 g2 g3 g4 => pz r w g1 g2 g3 g4 (by omega), fun f' t' g1 g2 => pw f' t' g1 g2 (by omega), fun d' f' t' g1 g2 g3 => ?_, fun j hj => ps j hj (by have hj : j < A.len := hj; omega), hm1.2.2.2.2.2.2⟩
          show _ = if (if d' = d ∧ f' = f ∧ t' = t then !decide (v = 0) else A.lo d' f' t') = true then (1 : Int32) else 0
          by_cases z : d' = d ∧ f' = f ∧ t' = t
          · rw [if_pos z, z.1, z.2.1, z.2.2]
            have : 0 + 200 + 64 * d + 8 * f + t = 200 + 64 * d + 8 * f + t := by omega
            rw [this, rI_wI_s]
            by_cases hz : v = 0
            · rw [if_pos hz, hz]
              rfl
            · rw [if_neg hz, if_pos (by simp [hz])]
          · rw [if_neg z]
            exact pl d' f' t' g1 g2 g3 (fun y => z (by omega))
    · refine ⟨-1, S, S, ?_, ?_, hI⟩
      · rw [eX, if_pos h0, if_neg h1]
      · rw [eM S hm, if_pos h0, if_neg h1]
  · refine ⟨-1, S, S, ?_, ?_, hI⟩
    · rw [eX, if_neg h0]
    · rw [eM S hm, if_neg h0]
