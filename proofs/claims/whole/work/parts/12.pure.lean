/-! what each method computes: by program out of its code -/
def X6_value (S : St) (a1 : Int32) (a2 : Int32) : Option (Int32) :=
  (ldA S 3 ((a1 * 6) + a2)).bind fun x1 =>
  some x1

def X6_sings (S : St) (a1 : Int32) : Option (Int32) :=
  (X6_value S a1 0).bind fun x2 =>
  if 4 ≤ x2 then
  some 0
  else
  some 1

def X6_between (S : St) (a1 : Int32) (a2 : Int32) : Option (Int32) :=
  (ldA S 4 ((a1 * 8) + a2)).bind fun x1 =>
  some x1

def X0_listen_L26 (v2 : Int32) : Nat → Int32 → St → Option (St)
  | 0, _, _ => none
  | n + 1, v3, S =>
    if (rI S 2 0) ≤ v3 then
    some S
    else
    (X6_sings S v3).bind fun x8 =>
      (if x8 = 0 then
      some S
      else
      (X6_between S v3 v2).bind fun x14 =>
        if x14 ≤ 0 then
        some S
        else
        (ldA S 28 v2).bind fun x16 =>
          (stA S 27 ((v2 * 8) + x16) v3).bind fun S18 =>
          (ldA S18 28 v2).bind fun x20 =>
          (stA S18 28 v2 (x20 + 1)).bind fun S22 =>
          (ldA S22 29 v2).bind fun x24 =>
          (X6_between S22 v3 v2).bind fun x27 =>
          (stA S22 29 v2 (x24 + x27)).bind fun S28 =>
          some S28).bind fun S10 =>
      X0_listen_L26 v2 n (v3 + 1) S10
def X0_listen_L2 : Nat → Int32 → St → Option (St)
  | 0, _, _ => none
  | n + 1, v2, S =>
    if (rI S 2 0) ≤ v2 then
    some S
    else
    (stA S 28 v2 0).bind fun S2 =>
      (stA S2 29 v2 0).bind fun S4 =>
      (X0_listen_L26 v2 FU 0 S4).bind fun S30 =>
      X0_listen_L2  n (v2 + 1) S30
def X0_listen (S : St) : Option (St) :=
  (X0_listen_L2  FU 0 S).bind fun S33 =>
  some S33

def X0_stretchWires_L2 (v2 : Int32) : Nat → Int32 → St → Option (St)
  | 0, _, _ => none
  | n + 1, v3, S =>
    if (rI S 2 0) ≤ v3 then
    some S
    else
    (ldA S 28 v3).bind fun x2 =>
      (stA S 29 v3 (x2 * v2)).bind fun S4 =>
      X0_stretchWires_L2 v2 n (v3 + 1) S4
def X0_stretchWires (S : St) (a2 : Int32) : Option (St) :=
  (X0_stretchWires_L2 a2 FU 0 S).bind fun S6 =>
  some S6

def X0_meanLag_L35 (S : St) (v1 : Int32) (v3 : Int32) : Nat → Int32 → Int32 → Option (Int32)
  | 0, _, _ => none
  | n + 1, v4, v5 =>
    if v3 ≤ v5 then
    some v4
    else
    (ldA S 27 ((v1 * 8) + v5)).bind fun x9 =>
      (ldA S (rR S 24 1) x9).bind fun x11 =>
      X0_meanLag_L35 S v1 v3 n (v4 + x11) (v5 + 1)
def X0_meanLag (S : St) (a1 : Int32) (a2 : Int32) : Option (Int32) :=
  (ldA S 28 a1).bind fun x1 =>
  if x1 = 0 then
  some 0
  else
  (ldA S 29 a1).bind fun x4 =>
    (ldA S (rR S 24 1) a1).bind fun x6 =>
    (X0_meanLag_L35 S a1 x1 FU (x4 - (x1 * (x6 + a2))) 0).bind fun x13 =>
    (dvO x13 x1).bind fun x15 =>
    some x15

def X0_timeAt (S : St) (a2 : Int32) (a3 : Int32) : Option (Int32) :=
  (X6_value S a2 0).bind fun x2 =>
  if x2 = 1 then
  some (a3 * (rI S 2 1))
  else
  if x2 = 2 then
    (X6_value S a2 3).bind fun x22 =>
      some ((a3 * (rI S 2 1)) - x22)
    else
    (ldA S (rR S 24 1) a2).bind fun x5 =>
      (if x2 = 3 then
      (X6_value S a2 4).bind fun x20 =>
        some x20
      else
      some (0 : Int32)).bind fun x8 =>
      (X0_meanLag S a2 x8).bind fun x12 =>
      (X6_value S a2 2).bind fun x14 =>
      (dvO (x14 * x12) 100).bind fun x15 =>
      (X6_value S a2 1).bind fun x18 =>
      some (if (x5 + 1) < (((x5 + (rI S 2 1)) + x18) + x15) then (((x5 + (rI S 2 1)) + x18) + x15) else (x5 + 1))

def X0_singTo_L2 (v2 : Int32) : Nat → Int32 → St → Option (St)
  | 0, _, _ => none
  | n + 1, v3, S =>
    if (rI S 2 0) ≤ v3 then
    some S
    else
    (X6_value S v3 0).bind fun x3 =>
      (if x3 = 2 then
      (X6_value S v3 3).bind fun x11 =>
        some (-x11)
      else
      some (0 : Int32)).bind fun x5 =>
      (stA S (rR S 24 0) v3 x5).bind fun S8 =>
      X0_singTo_L2 v2 n (v3 + 1) S8
def X0_singTo_L73 (v2 : Int32) (v3 : Int32) : Nat → Int32 → St → Option (St)
  | 0, _, _ => none
  | n + 1, v5, S =>
    if (rI S 2 0) ≤ v5 then
    some S
    else
    (X6_sings S v5).bind fun x21 =>
      (if x21 = 0 then
      some (0 : Int32)
      else
      (X0_timeAt S v5 v3).bind fun x29 =>
        some x29).bind fun x23 =>
      (stA S (rR S 24 0) v5 x23).bind fun S26 =>
      X0_singTo_L73 v2 v3 n (v5 + 1) S26
def X0_singTo_L45 (v2 : Int32) : Nat → Int32 → St → Option (St)
  | 0, _, _ => none
  | n + 1, v3, S =>
    if v2 < v3 then
    some S
    else
    (stR S 24 1 (rR S 24 0)).bind fun S15 =>
      (stR S15 24 0 (rR S 24 1)).bind fun S17 =>
      (X0_singTo_L73 v2 v3 FU 0 S17).bind fun S30 =>
      X0_singTo_L45 v2 n (v3 + 1) S30
def X0_singTo (S : St) (a2 : Int32) : Option (St) :=
  (X0_singTo_L2 a2 FU 0 S).bind fun S12 =>
  (X0_singTo_L45 a2 FU 1 S12).bind fun S33 =>
  some S33

def X0_timeOf (S : St) (a1 : Int32) : Option (Int32) :=
  (ldA S (rR S 24 0) a1).bind fun x1 =>
  some x1

def X0_meanPace_L7 (S : St) : Nat → Int32 → Int32 → Int32 → Option (Int32 × Int32)
  | 0, _, _, _ => none
  | n + 1, v2, v3, v4 =>
    if (rI S 2 0) ≤ v4 then
    some (v2, v3)
    else
    (X6_sings S v4).bind fun x3 =>
      (if x3 = 0 then
      some (v2, v3)
      else
      (ldA S (rR S 24 0) v4).bind fun x9 =>
        (ldA S (rR S 24 1) v4).bind fun x11 =>
        some ((v2 + (x9 - x11)), (v3 + 1))).bind fun (x5, x6) =>
      X0_meanPace_L7 S  n x5 x6 (v4 + 1)
def X0_meanPace (S : St) : Option (Int32) :=
  (X0_meanPace_L7 S  FU 0 0 0).bind fun (x13, x14) =>
  if x14 = 0 then
  some 0
  else
  (dvO x13 x14).bind fun x17 =>
    some x17

def X0_spread_L10 (S : St) : Nat → Int32 → Int32 → Int32 → Int32 → Option (Int32 × Int32)
  | 0, _, _, _, _ => none
  | n + 1, v2, v3, v4, v5 =>
    if (rI S 2 0) ≤ v5 then
    some (v3, v4)
    else
    (X6_sings S v5).bind fun x3 =>
      (if x3 = 0 then
      some (v2, v3, v4)
      else
      (if v2 = 0 then
        (ldA S (rR S 24 0) v5).bind fun x22 =>
          some x22
        else
        (ldA S (rR S 24 0) v5).bind fun x24 =>
          some (if x24 < v3 then x24 else v3)).bind fun x11 =>
        (if v2 = 0 then
        (ldA S (rR S 24 0) v5).bind fun x18 =>
          some x18
        else
        (ldA S (rR S 24 0) v5).bind fun x20 =>
          some (if v4 < x20 then x20 else v4)).bind fun x15 =>
        some ((1 : Int32), x11, x15)).bind fun (x5, x6, x7) =>
      X0_spread_L10 S  n x5 x6 x7 (v5 + 1)
def X0_spread (S : St) : Option (Int32) :=
  (X0_spread_L10 S  FU 0 0 0 0).bind fun (x26, x27) =>
  some (x27 - x26)

def X6_take (S : St) (a0 : Nat) (a1 : Nat) : Option (St) :=
  (ckO S a1 6).bind fun _ =>
  (ckO S a0 6).bind fun _ =>
  (stF S a0 0 (rI S a1 0)).bind fun S3 =>
  (ckO S3 a1 6).bind fun _ =>
  (ckO S3 a0 6).bind fun _ =>
  (stF S3 a0 1 (rI S3 a1 1)).bind fun S7 =>
  (ckO S7 a1 6).bind fun _ =>
  (ckO S7 a0 6).bind fun _ =>
  (stF S7 a0 2 (rI S7 a1 2)).bind fun S11 =>
  (ckO S11 a1 6).bind fun _ =>
  (ckO S11 a0 6).bind fun _ =>
  (ckO S11 a0 6).bind fun _ =>
  (alO S11 (a0 + 1)).bind fun x16 =>
  (cpI S11 (a1 + 1) 0 (a0 + 1) 0 x16).bind fun S18 =>
  (ckO S18 a1 6).bind fun _ =>
  (ckO S18 a0 6).bind fun _ =>
  (ckO S18 a0 6).bind fun _ =>
  (alO S18 (a0 + 2)).bind fun x23 =>
  (cpI S18 (a1 + 2) 0 (a0 + 2) 0 x23).bind fun S25 =>
  (ckO S25 a1 6).bind fun _ =>
  (ckO S25 a0 6).bind fun _ =>
  (ckO S25 a0 6).bind fun _ =>
  (alO S25 (a0 + 3)).bind fun x30 =>
  (cpI S25 (a1 + 3) 0 (a0 + 3) 0 x30).bind fun S32 =>
  some S32

def X5_take (S : St) (a0 : Nat) (a1 : Nat) : Option (St) :=
  (ckO S a1 5).bind fun _ =>
  (ckO S a0 5).bind fun _ =>
  (stF S a0 0 (rI S a1 0)).bind fun S3 =>
  (ckO S3 a1 5).bind fun _ =>
  (ckO S3 a0 5).bind fun _ =>
  (ckO S3 a0 5).bind fun _ =>
  (alO S3 (a0 + 1)).bind fun x8 =>
  (cpI S3 (a1 + 1) 0 (a0 + 1) 0 x8).bind fun S10 =>
  some S10

def X3_take (S : St) (a0 : Nat) (a1 : Nat) : Option (St) :=
  (ckO S a1 3).bind fun _ =>
  (ckO S a0 3).bind fun _ =>
  (stF S a0 0 (rI S a1 0)).bind fun S3 =>
  (ckO S3 a1 3).bind fun _ =>
  (ckO S3 a0 3).bind fun _ =>
  (ckO S3 a0 3).bind fun _ =>
  (alL S3 (a0 + 1)).bind fun x8 =>
  (cpJ S3 (a1 + 1) 0 (a0 + 1) 0 x8).bind fun S10 =>
  some S10

def X1_take (S : St) (a0 : Nat) (a1 : Nat) : Option (St) :=
  (ckO S a0 1).bind fun _ =>
  (ckO S a1 1).bind fun _ =>
  (ckO S (a0 + 1) 6).bind fun _ =>
  (X6_take S (a0 + 1) (a1 + 1)).bind fun S5 =>
  (ckO S5 a0 1).bind fun _ =>
  (ckO S5 a1 1).bind fun _ =>
  (ckO S5 (a0 + 5) 5).bind fun _ =>
  (X5_take S5 (a0 + 5) (a1 + 5)).bind fun S10 =>
  (ckO S10 a0 1).bind fun _ =>
  (ckO S10 a1 1).bind fun _ =>
  (ckO S10 (a0 + 7) 3).bind fun _ =>
  (X3_take S10 (a0 + 7) (a1 + 7)).bind fun S15 =>
  (ckO S15 a1 1).bind fun _ =>
  (ckO S15 a0 1).bind fun _ =>
  (stF S15 a0 3 (rI S15 a1 3)).bind fun S18 =>
  some S18

def X6_singers_L4 (S : St) : Nat → Int32 → Int32 → Option (Int32)
  | 0, _, _ => none
  | n + 1, v1, v2 =>
    if (rI S 2 0) ≤ v2 then
    some v1
    else
    (X6_sings S v2).bind fun x3 =>
      (if x3 = 0 then
      some (0 : Int32)
      else
      some ((1 <<< (v2 &&& 31)) : Int32)).bind fun x5 =>
      X6_singers_L4 S  n (v1 ||| x5) (v2 + 1)
def X6_singers (S : St) : Option (Int32) :=
  (X6_singers_L4 S  FU 0 0).bind fun x8 =>
  some x8

def X6_isCut (S : St) (a1 : Int32) : Option (Int32) :=
  (X6_value S a1 0).bind fun x2 =>
  if x2 = 5 then
  some 1
  else
  some 0

def X6_reachedByAll_L2 (S : St) (v1 : Int32) (v2 : Int32) : Nat → Int32 → Option ((Unit) ⊕ (Int32))
  | 0, _ => none
  | n + 1, v3 =>
    if (rI S 2 0) ≤ v3 then
    some (.inl ())
    else
    if ((v2 >>> (v3 &&& 31)) &&& 1) = 0 then
      X6_reachedByAll_L2 S v1 v2 n (v3 + 1)
      else
      (X6_between S v3 v1).bind fun x4 =>
        if x4 = 0 then
        some (.inr 0)
        else
        X6_reachedByAll_L2 S v1 v2 n (v3 + 1)
def X6_reachedByAll (S : St) (a1 : Int32) (a2 : Int32) : Option (Int32) :=
  (X6_reachedByAll_L2 S a1 a2 FU 0).bind fun t => match t with
  | .inr x8 => some x8
  | .inl _ =>
  some 1

def X6_shortestWire_L7 (S : St) (v1 : Int32) (v2 : Int32) : Nat → Int32 → Int32 → Option (Int32)
  | 0, _, _ => none
  | n + 1, v3, v4 =>
    if (rI S 2 0) ≤ v4 then
    some v3
    else
    (if ((v2 >>> (v4 &&& 31)) &&& 1) = 0 then
      some v3
      else
      (X6_between S v4 v1).bind fun x7 =>
        some (if x7 < v3 then x7 else v3)).bind fun x3 =>
      X6_shortestWire_L7 S v1 v2 n x3 (v4 + 1)
def X6_shortestWire (S : St) (a1 : Int32) (a2 : Int32) : Option (Int32) :=
  (X6_shortestWire_L7 S a1 a2 FU 400 0).bind fun x8 =>
  some x8

def X2_lead_L11 (v2 : Int32) (v4 : Int32) : Nat → Int32 → St → Option (St)
  | 0, _, _ => none
  | n + 1, v5, S =>
    if (rI S 2 0) ≤ v5 then
    some S
    else
    (X6_between S v5 v2).bind fun x5 =>
      (stA S 31 v5 (x5 - v4)).bind fun S6 =>
      X2_lead_L11 v2 v4 n (v5 + 1) S6
def X2_lead (S : St) (a2 : Int32) (a3 : Int32) : Option (St) :=
  (X6_shortestWire S a2 a3).bind fun x2 =>
  (X2_lead_L11 a2 x2 FU 0 S).bind fun S8 =>
  some S8

def X2_agrees_L11 (S : St) (v2 : Int32) (v3 : Int32) (v4 : Int32) : Nat → Int32 → Option ((Unit) ⊕ (Int32))
  | 0, _ => none
  | n + 1, v5 =>
    if (rI S 2 0) ≤ v5 then
    some (.inl ())
    else
    if ((v3 >>> (v5 &&& 31)) &&& 1) = 0 then
      X2_agrees_L11 S v2 v3 v4 n (v5 + 1)
      else
      (ldA S 31 v5).bind fun x5 =>
        (X6_between S v5 v2).bind fun x8 =>
        if x5 = (x8 - v4) then
        X2_agrees_L11 S v2 v3 v4 n (v5 + 1)
        else
        some (.inr 0)
def X2_agrees (S : St) (a2 : Int32) (a3 : Int32) : Option (Int32) :=
  (X6_shortestWire S a2 a3).bind fun x2 =>
  (X2_agrees_L11 S a2 a3 x2 FU 0).bind fun t => match t with
  | .inr x12 => some x12
  | .inl _ =>
  some 1

def X2_firstFailing_L15 (v2 : Int32) (v3 : Int32) : Nat → Int32 → Int32 → St → Option ((St) ⊕ (Int32 × St))
  | 0, _, _, _ => none
  | n + 1, v4, v5, S =>
    if (rI S 2 0) ≤ v5 then
    some (.inl S)
    else
    if v3 = 0 then
      some (.inl S)
      else
      if ((v2 >>> (v5 &&& 31)) &&& 1) = 0 then
        X2_firstFailing_L15 v2 v3 n v4 (v5 + 1) S
        else
        (X6_isCut S v5).bind fun x7 =>
          if x7 = 0 then
          (X6_reachedByAll S v5 v3).bind fun x10 =>
            if x10 = 0 then
            some (.inr (v5, S))
            else
            if v4 = 0 then
              (X2_lead S v5 v3).bind fun S17 =>
                X2_firstFailing_L15 v2 v3 n 1 (v5 + 1) S17
              else
              (X2_agrees S v5 v3).bind fun x14 =>
                if x14 = 0 then
                some (.inr (v5, S))
                else
                X2_firstFailing_L15 v2 v3 n v4 (v5 + 1) S
          else
          some (.inr (v5, S))
def X2_firstFailing (S : St) (a2 : Int32) : Option (Int32 × St) :=
  (X6_singers S ).bind fun x2 =>
  (X2_firstFailing_L15 a2 (x2 &&& (a2 ^^^ (-1))) FU 0 0 S).bind fun t => match t with
  | .inr (x21, S22) => some (x21, S22)
  | .inl S18 =>
  some ((-4), S18)

def X2_leadOf (S : St) (a1 : Int32) : Option (Int32) :=
  (ldA S 31 a1).bind fun x1 =>
  some x1

def X3_add (S : St) (a1 : Int64) : Option (Int32 × St) :=
  (stL S 9 (rI S 8 0) a1).bind fun S1 =>
  (stF S1 8 0 ((rI S1 8 0) + 1)).bind fun S3 =>
  some (((rI S3 8 0) - 1), S3)

def J6_bitCount_0f7a4 (S : St) (a0 : Int32) : Option (Int32) :=
  some ((((((((a0 - (((a0 : Int32).toUInt32 >>> ((1 : Int32).toUInt32 &&& Int32.toUInt32 31)).toInt32 &&& 1431655765)) &&& 858993459) + ((((a0 - (((a0 : Int32).toUInt32 >>> ((1 : Int32).toUInt32 &&& Int32.toUInt32 31)).toInt32 &&& 1431655765)) : Int32).toUInt32 >>> ((2 : Int32).toUInt32 &&& Int32.toUInt32 31)).toInt32 &&& 858993459)) + (((((a0 - (((a0 : Int32).toUInt32 >>> ((1 : Int32).toUInt32 &&& Int32.toUInt32 31)).toInt32 &&& 1431655765)) &&& 858993459) + ((((a0 - (((a0 : Int32).toUInt32 >>> ((1 : Int32).toUInt32 &&& Int32.toUInt32 31)).toInt32 &&& 1431655765)) : Int32).toUInt32 >>> ((2 : Int32).toUInt32 &&& Int32.toUInt32 31)).toInt32 &&& 858993459)) : Int32).toUInt32 >>> ((4 : Int32).toUInt32 &&& Int32.toUInt32 31)).toInt32) &&& 252645135) + (((((((a0 - (((a0 : Int32).toUInt32 >>> ((1 : Int32).toUInt32 &&& Int32.toUInt32 31)).toInt32 &&& 1431655765)) &&& 858993459) + ((((a0 - (((a0 : Int32).toUInt32 >>> ((1 : Int32).toUInt32 &&& Int32.toUInt32 31)).toInt32 &&& 1431655765)) : Int32).toUInt32 >>> ((2 : Int32).toUInt32 &&& Int32.toUInt32 31)).toInt32 &&& 858993459)) + (((((a0 - (((a0 : Int32).toUInt32 >>> ((1 : Int32).toUInt32 &&& Int32.toUInt32 31)).toInt32 &&& 1431655765)) &&& 858993459) + ((((a0 - (((a0 : Int32).toUInt32 >>> ((1 : Int32).toUInt32 &&& Int32.toUInt32 31)).toInt32 &&& 1431655765)) : Int32).toUInt32 >>> ((2 : Int32).toUInt32 &&& Int32.toUInt32 31)).toInt32 &&& 858993459)) : Int32).toUInt32 >>> ((4 : Int32).toUInt32 &&& Int32.toUInt32 31)).toInt32) &&& 252645135) : Int32).toUInt32 >>> ((8 : Int32).toUInt32 &&& Int32.toUInt32 31)).toInt32) + ((((((((a0 - (((a0 : Int32).toUInt32 >>> ((1 : Int32).toUInt32 &&& Int32.toUInt32 31)).toInt32 &&& 1431655765)) &&& 858993459) + ((((a0 - (((a0 : Int32).toUInt32 >>> ((1 : Int32).toUInt32 &&& Int32.toUInt32 31)).toInt32 &&& 1431655765)) : Int32).toUInt32 >>> ((2 : Int32).toUInt32 &&& Int32.toUInt32 31)).toInt32 &&& 858993459)) + (((((a0 - (((a0 : Int32).toUInt32 >>> ((1 : Int32).toUInt32 &&& Int32.toUInt32 31)).toInt32 &&& 1431655765)) &&& 858993459) + ((((a0 - (((a0 : Int32).toUInt32 >>> ((1 : Int32).toUInt32 &&& Int32.toUInt32 31)).toInt32 &&& 1431655765)) : Int32).toUInt32 >>> ((2 : Int32).toUInt32 &&& Int32.toUInt32 31)).toInt32 &&& 858993459)) : Int32).toUInt32 >>> ((4 : Int32).toUInt32 &&& Int32.toUInt32 31)).toInt32) &&& 252645135) + (((((((a0 - (((a0 : Int32).toUInt32 >>> ((1 : Int32).toUInt32 &&& Int32.toUInt32 31)).toInt32 &&& 1431655765)) &&& 858993459) + ((((a0 - (((a0 : Int32).toUInt32 >>> ((1 : Int32).toUInt32 &&& Int32.toUInt32 31)).toInt32 &&& 1431655765)) : Int32).toUInt32 >>> ((2 : Int32).toUInt32 &&& Int32.toUInt32 31)).toInt32 &&& 858993459)) + (((((a0 - (((a0 : Int32).toUInt32 >>> ((1 : Int32).toUInt32 &&& Int32.toUInt32 31)).toInt32 &&& 1431655765)) &&& 858993459) + ((((a0 - (((a0 : Int32).toUInt32 >>> ((1 : Int32).toUInt32 &&& Int32.toUInt32 31)).toInt32 &&& 1431655765)) : Int32).toUInt32 >>> ((2 : Int32).toUInt32 &&& Int32.toUInt32 31)).toInt32 &&& 858993459)) : Int32).toUInt32 >>> ((4 : Int32).toUInt32 &&& Int32.toUInt32 31)).toInt32) &&& 252645135) : Int32).toUInt32 >>> ((8 : Int32).toUInt32 &&& Int32.toUInt32 31)).toInt32) : Int32).toUInt32 >>> ((16 : Int32).toUInt32 &&& Int32.toUInt32 31)).toInt32) &&& 63)

def X3_lostOf_L5 (S : St) (v1 : Int32) (v2 : Int32) : Nat → Int32 → Int32 → Option (Int32)
  | 0, _, _ => none
  | n + 1, v3, v4 =>
    if 24 ≤ v4 then
    some v3
    else
    if 24 ≤ (v4 * v2) then
      some v3
      else
      (ldL S 9 v1).bind fun x3 =>
        (ldL S 9 v1).bind fun x5 =>
        (if (lg_cmp ((x5 >>> (((24 + v4) : Int32).toInt64 &&& 63)) &&& 1) 0) = 0 then
        some (0 : Int32)
        else
        some (1 : Int32)).bind fun x8 =>
        (if x8 = 0 then
        (J6_bitCount_0f7a4 S ((x3 : Int64).toInt32 &&& ((1 <<< ((if ((v4 * v2) + v2) < 24 then ((v4 * v2) + v2) else 24) &&& 31)) - (1 <<< ((v4 * v2) &&& 31))))).bind fun x16 =>
          if x16 ≤ 1 then
          some v3
          else
          some (v3 ||| ((x3 : Int64).toInt32 &&& ((1 <<< ((if ((v4 * v2) + v2) < 24 then ((v4 * v2) + v2) else 24) &&& 31)) - (1 <<< ((v4 * v2) &&& 31)))))
        else
        some (v3 ||| ((x3 : Int64).toInt32 &&& ((1 <<< ((if ((v4 * v2) + v2) < 24 then ((v4 * v2) + v2) else 24) &&& 31)) - (1 <<< ((v4 * v2) &&& 31)))))).bind fun x12 =>
        X3_lostOf_L5 S v1 v2 n x12 (v4 + 1)
def X3_lostOf (S : St) (a1 : Int32) (a2 : Int32) : Option (Int32) :=
  (X3_lostOf_L5 S a1 a2 FU 0 0).bind fun x18 =>
  some x18

def X3_losesNothing_L2 (S : St) (v1 : Int32) : Nat → Int32 → Option ((Unit) ⊕ (Int32))
  | 0, _ => none
  | n + 1, v2 =>
    if (rI S 8 0) ≤ v2 then
    some (.inl ())
    else
    (X3_lostOf S v2 v1).bind fun x3 =>
      if x3 = 0 then
      X3_losesNothing_L2 S v1 n (v2 + 1)
      else
      some (.inr 0)
def X3_losesNothing (S : St) (a1 : Int32) : Option (Int32) :=
  (X3_losesNothing_L2 S a1 FU 0).bind fun t => match t with
  | .inr x7 => some x7
  | .inl _ =>
  some 1

def X4_gather_L7 : Nat → Int32 → St → Option (St)
  | 0, _, _ => none
  | n + 1, v2, S =>
    if (rI S 2 0) ≤ v2 then
    some S
    else
    if 6 ≤ (rI S 35 0) then
      some S
      else
      (X6_isCut S v2).bind fun x6 =>
        (if x6 = 0 then
        (stA S 36 (rI S 35 0) v2).bind fun S11 =>
          (stF S11 35 0 ((rI S11 35 0) + 1)).bind fun S13 =>
          some S13
        else
        some S).bind fun S8 =>
        X4_gather_L7  n (v2 + 1) S8
def X4_gather (S : St) : Option (St) :=
  (stF S 35 0 0).bind fun S1 =>
  (X4_gather_L7  FU 0 S1).bind fun S15 =>
  some S15

def J7_fill_53178_L5 (v0 : Nat) (v1 : Int32) (v3 : Int32) : Nat → Int32 → St → Option (St)
  | 0, _, _ => none
  | n + 1, v2, S =>
    if v3 ≤ v2 then
    some S
    else
    (stA S v0 v2 v1).bind fun S4 =>
      J7_fill_53178_L5 v0 v1 v3 n (v2 + 1) S4
def J7_fill_53178 (S : St) (a0 : Nat) (a1 : Int32) : Option (St) :=
  (alO S a0).bind fun x1 =>
  (J7_fill_53178_L5 a0 a1 x1 FU 0 S).bind fun S6 =>
  some S6

def X4_takeLeaf_L2 : Nat → Int32 → St → Option ((St) ⊕ (Int32 × St))
  | 0, _, _ => none
  | n + 1, v1, S =>
    if (rI S 35 0) ≤ v1 then
    some (.inl S)
    else
    (ldA S 38 v1).bind fun x2 =>
      if x2 = 1 then
      (stA S 38 v1 0).bind fun S5 =>
        some (.inr (v1, S5))
      else
      X4_takeLeaf_L2  n (v1 + 1) S
def X4_takeLeaf (S : St) : Option (Int32 × St) :=
  (X4_takeLeaf_L2  FU 0 S).bind fun t => match t with
  | .inr (x10, S11) => some (x10, S11)
  | .inl S7 =>
  some (0, S7)

def X4_blinksOf (S : St) (a2 : Int32) (a3 : Int32) : Option (Int32) :=
  (ldA S 36 a2).bind fun x1 =>
  (ldA S 36 a3).bind fun x3 =>
  (X6_between S x1 x3).bind fun x6 =>
  some x6

def X4_decode_L13 : Nat → Int32 → Int32 → St → Option (St)
  | 0, _, _, _ => none
  | n + 1, v3, v4, S =>
    if ((rI S 35 0) - 2) ≤ v4 then
    some S
    else
    (rmO v3 (rI S 35 0)).bind fun x4 =>
      (stA S 37 v4 x4).bind fun S6 =>
      (dvO v3 (rI S6 35 0)).bind fun x8 =>
      (ldA S6 37 v4).bind fun x10 =>
      (ldA S6 38 x10).bind fun x12 =>
      (stA S6 38 x10 (x12 + 1)).bind fun S14 =>
      X4_decode_L13  n x8 (v4 + 1) S14
def X4_decode_L69 (S : St) : Nat → Int32 → Option ((Unit) ⊕ (Int32 × St))
  | 0, _ => none
  | n + 1, v4 =>
    if (rI S 35 0) ≤ v4 then
    some (.inl ())
    else
    (ldA S 38 v4).bind fun x19 =>
      if x19 ≤ (rI S 2 2) then
      X4_decode_L69 S  n (v4 + 1)
      else
      some (.inr (0, S))
def X4_decode_L103 : Nat → Int32 → St → Option ((St) ⊕ (Int32 × St))
  | 0, _, _ => none
  | n + 1, v4, S =>
    if ((rI S 35 0) - 1) ≤ v4 then
    some (.inl S)
    else
    (X4_takeLeaf S ).bind fun (x25, S26) =>
      (stA S26 39 v4 x25).bind fun S27 =>
      (if ((rI S27 35 0) - 2) ≤ v4 then
      (X4_takeLeaf S27 ).bind fun (x57, S58) =>
        some (x57, S58)
      else
      (ldA S27 37 v4).bind fun x59 =>
        some (x59, S27)).bind fun (x30, S31) =>
      (stA S31 40 v4 x30).bind fun S34 =>
      (ldA S34 40 v4).bind fun x36 =>
      (ldA S34 38 x36).bind fun x38 =>
      (stA S34 38 x36 (x38 - 1)).bind fun S40 =>
      (ldA S40 39 v4).bind fun x42 =>
      (ldA S40 40 v4).bind fun x44 =>
      (X4_blinksOf S40 x42 x44).bind fun x47 =>
      if x47 = 0 then
      some (.inr (0, S40))
      else
      (ldA S40 40 v4).bind fun x49 =>
        (ldA S40 39 v4).bind fun x51 =>
        (X4_blinksOf S40 x49 x51).bind fun x54 =>
        if x54 = 0 then
        some (.inr (0, S40))
        else
        X4_decode_L103  n (v4 + 1) S40
def X4_decode (S : St) (a2 : Int32) : Option (Int32 × St) :=
  (J7_fill_53178 S 38 1).bind fun S2 =>
  (X4_decode_L13  FU a2 0 S2).bind fun S16 =>
  (X4_decode_L69 S16  FU 0).bind fun t => match t with
  | .inr (x67, S68) => some (x67, S68)
  | .inl _ =>
  (X4_decode_L103  FU 0 S16).bind fun t => match t with
  | .inr (x64, S65) => some (x64, S65)
  | .inl S61 =>
  some (1, S61)

def X4_join_L24 (v2 : Int32) (v3 : Int32) (v4 : Int32) (v5 : Int32) (v6 : Int32) : Nat → Int32 → Int32 → St → Option (Int32 × St)
  | 0, _, _, _ => none
  | n + 1, v7, v8, S =>
    if (rI S 35 0) ≤ v8 then
    some (v7, S)
    else
    (if ((v4 >>> (v8 &&& 31)) &&& 1) = 0 then
      some (v7, S)
      else
      (if v8 = v3 then
        some (1 : Int32)
        else
        some (0 : Int32)).bind fun x12 =>
        (if x12 = 0 then
        (ldA S 41 ((v3 * 6) + v8)).bind fun x33 =>
          some x33
        else
        some (0 : Int32)).bind fun x16 =>
        (stA S 41 ((v2 * 6) + v8) (v5 + x16)).bind fun S19 =>
        (if x12 = 0 then
        (ldA S19 41 ((v8 * 6) + v3)).bind fun x31 =>
          some x31
        else
        some (0 : Int32)).bind fun x22 =>
        (stA S19 41 ((v8 * 6) + v2) (v6 + x22)).bind fun S25 =>
        (ldA S25 41 ((v2 * 6) + v8)).bind fun x27 =>
        (ldA S25 41 ((v8 * 6) + v2)).bind fun x29 =>
        some ((if (if v7 < x27 then x27 else v7) < x29 then x29 else (if v7 < x27 then x27 else v7)), S25)).bind fun (x7, S8) =>
      X4_join_L24 v2 v3 v4 v5 v6 n x7 (v8 + 1) S8
def X4_join (S : St) (a2 : Int32) (a3 : Int32) (a4 : Int32) : Option (Int32 × St) :=
  (X4_blinksOf S a2 a3).bind fun x2 =>
  (X4_blinksOf S a3 a2).bind fun x4 =>
  (X4_join_L24 a2 a3 a4 x2 x4 FU 0 0 S).bind fun (x35, S36) =>
  some (x35, S36)

def X4_greatestWait_L24 : Nat → Int32 → Int32 → Int32 → St → Option (Int32 × St)
  | 0, _, _, _, _ => none
  | n + 1, v2, v3, v4, S =>
    if v4 < 0 then
    some (v2, S)
    else
    (ldA S 39 v4).bind fun x4 =>
      (ldA S 40 v4).bind fun x6 =>
      (X4_join S x4 x6 v3).bind fun (x9, S10) =>
      (ldA S10 39 v4).bind fun x11 =>
      X4_greatestWait_L24  n (if v2 < x9 then x9 else v2) (v3 ||| (1 <<< (x11 &&& 31))) (v4 + (-1)) S10
def X4_greatestWait (S : St) : Option (Int32 × St) :=
  (ldA S 40 ((rI S 35 0) - 2)).bind fun x1 =>
  (X4_greatestWait_L24  FU 0 (1 <<< (x1 &&& 31)) ((rI S 35 0) - 2) S).bind fun (x13, S14) =>
  some (x13, S14)

def X4_leastWait_L9 (S : St) : Nat → Int32 → Int32 → Option (Int32)
  | 0, _, _ => none
  | n + 1, v2, v3 =>
    if ((rI S 35 0) - 2) ≤ v3 then
    some v2
    else
    X4_leastWait_L9 S  n (v2 * (rI S 35 0)) (v3 + 1)
def X4_leastWait_L38 (v2 : Int32) : Nat → Int32 → Int32 → St → Option (Int32 × St)
  | 0, _, _, _ => none
  | n + 1, v3, v4, S =>
    if v2 ≤ v4 then
    some (v3, S)
    else
    (X4_decode S v4).bind fun (x8, S9) =>
      (if x8 = 0 then
      some (v3, S9)
      else
      (X4_greatestWait S9 ).bind fun (x16, S17) =>
        (if v3 = (-4) then
        some x16
        else
        some (if x16 < v3 then x16 else v3)).bind fun x19 =>
        some (x19, S17)).bind fun (x11, S12) =>
      X4_leastWait_L38 v2 n x11 (v4 + 1) S12
def X4_leastWait (S : St) : Option (Int32 × St) :=
  (X4_gather S ).bind fun S2 =>
  (X4_leastWait_L9 S2  FU 1 0).bind fun x4 =>
  (X4_leastWait_L38 x4 FU (-4) 0 S2).bind fun (x22, S23) =>
  some (x22, S23)

def X5_append_L3 (v1 : Int32) (v2 : Int32) (v3 : Int32) : Nat → Int32 → St → Option (St)
  | 0, _, _ => none
  | n + 1, v4, S =>
    if v2 ≤ v4 then
    some S
    else
    (if v3 = 0 then
      some (0 : Int32)
      else
      if v4 = (v2 - 1) then
        some (10 : Int32)
        else
        some (0 : Int32)).bind fun x3 =>
      (stA S 13 (rI S 12 0) (v1 + x3)).bind fun S6 =>
      (stF S6 12 0 ((rI S6 12 0) + 1)).bind fun S8 =>
      X5_append_L3 v1 v2 v3 n (v4 + 1) S8
def X5_append (S : St) (a1 : Int32) (a2 : Int32) (a3 : Int32) : Option (St) :=
  (X5_append_L3 a1 a2 a3 FU 0 S).bind fun S11 =>
  some S11

def X5_breaths_L4 (S : St) : Nat → Int32 → Int32 → Option (Int32)
  | 0, _, _ => none
  | n + 1, v1, v2 =>
    if (rI S 6 0) ≤ v2 then
    some v1
    else
    (ldA S 7 v2).bind fun x2 =>
      (if x2 < 10 then
      some (0 : Int32)
      else
      some (1 : Int32)).bind fun x5 =>
      X5_breaths_L4 S  n (v1 + x5) (v2 + 1)
def X5_breaths (S : St) : Option (Int32) :=
  (X5_breaths_L4 S  FU 0 0).bind fun x8 =>
  some x8

def X5_behindLastBreath_L9 (S : St) : Nat → Int32 → Option ((Unit) ⊕ (Int32))
  | 0, _ => none
  | n + 1, v2 =>
    if v2 ≤ 0 then
    some (.inl ())
    else
    (ldA S 7 (v2 - 1)).bind fun x2 =>
      if x2 < 10 then
      X5_behindLastBreath_L9 S  n (v2 + (-1))
      else
      some (.inr v2)
def X5_behindLastBreath (S : St) (a1 : Int32) : Option (Int32) :=
  (X5_behindLastBreath_L9 S  FU (if (rI S 6 0) < a1 then (rI S 6 0) else a1)).bind fun t => match t with
  | .inr x7 => some x7
  | .inl _ =>
  some 0

def X5_clashesAt_L5 (S : St) (v1 : Int32) (v2 : Int32) : Nat → Int32 → Int32 → Option (Int32)
  | 0, _, _ => none
  | n + 1, v3, v4 =>
    if (rI S 6 0) ≤ v4 then
    some v3
    else
    (ldA S 7 v4).bind fun x2 =>
      (rmO x2 10).bind fun x4 =>
      (ldA S 7 (v4 - v1)).bind fun x6 =>
      (rmO x6 10).bind fun x8 =>
      (if x4 = 0 then
      some v3
      else
      if x8 = 0 then
        some v3
        else
        if ((v2 >>> ((if 0 ≤ (x4 - x8) then (x4 - x8) else 0 - (x4 - x8)) &&& 31)) &&& 1) = 0 then
          some (v3 + 1)
          else
          some v3).bind fun x11 =>
      X5_clashesAt_L5 S v1 v2 n x11 (v4 + 1)
def X5_clashesAt (S : St) (a1 : Int32) (a2 : Int32) : Option (Int32) :=
  (X5_clashesAt_L5 S a1 a2 FU 0 a1).bind fun x16 =>
  some x16

def X6_add (S : St) (a1 : Int32) : Option (Int32 × St) :=
  (stF S 2 0 ((rI S 2 0) + 1)).bind fun S1 =>
  (cpF S1 FIRSTV 0 3 ((rI S 2 0) * 6) 6).bind fun S3 =>
  (stA S3 3 (((rI S 2 0) * 6) + 0) a1).bind fun S5 =>
  some ((rI S 2 0), S5)

def X6_has (S : St) (a1 : Int32) : Option (Int32) :=
  if a1 < 0 then
  some 0
  else
  if (rI S 2 0) ≤ a1 then
    some 0
    else
    some 1

def X6_hasTwo (S : St) (a1 : Int32) (a2 : Int32) : Option (Int32) :=
  (X6_has S a1).bind fun x2 =>
  if x2 = 0 then
  some 0
  else
  (X6_has S a2).bind fun x5 =>
    if x5 = 0 then
    some 0
    else
    if a1 = a2 then
      some 0
      else
      some 1

def X6_change (S : St) (a1 : Int32) (a2 : Int32) (a3 : Int32) : Option (Int32 × St) :=
  (X6_value S a1 a2).bind fun x2 =>
  (stA S 3 ((a1 * 6) + a2) a3).bind fun S3 =>
  some (x2, S3)

def X6_all (S : St) : Option (Int32) :=
  some ((1 <<< ((rI S 2 0) &&& 31)) - 1)

def X6_uncut_L4 (S : St) : Nat → Int32 → Int32 → Option (Int32)
  | 0, _, _ => none
  | n + 1, v1, v2 =>
    if (rI S 2 0) ≤ v2 then
    some v1
    else
    (X6_isCut S v2).bind fun x3 =>
      (if x3 = 0 then
      some ((1 <<< (v2 &&& 31)) : Int32)
      else
      some (0 : Int32)).bind fun x5 =>
      X6_uncut_L4 S  n (v1 ||| x5) (v2 + 1)
def X6_uncut (S : St) : Option (Int32) :=
  (X6_uncut_L4 S  FU 0 0).bind fun x8 =>
  some x8

def X6_lay (S : St) (a1 : Int32) (a2 : Int32) (a3 : Int32) : Option (Int32 × St) :=
  (X6_between S a1 a2).bind fun x2 =>
  (stA S 4 ((a1 * 8) + a2) a3).bind fun S3 =>
  some (x2, S3)

def X6_canLayAll_L3 (S : St) (v1 : Int32) (v2 : Nat) (v3 : Int32) : Nat → Int32 → Option ((Unit) ⊕ (Int32))
  | 0, _ => none
  | n + 1, v4 =>
    if (rI S 2 0) ≤ v4 then
    some (.inl ())
    else
    (ckO S v2 7).bind fun _ =>
      (ldA S (v2 + 1) (v3 + v4)).bind fun x3 =>
      if x3 < 0 then
      some (.inr 0)
      else
      if 400 < x3 then
        some (.inr 0)
        else
        if v4 = v1 then
          if x3 = 0 then
            X6_canLayAll_L3 S v1 v2 v3 n (v4 + 1)
            else
            some (.inr 0)
          else
          X6_canLayAll_L3 S v1 v2 v3 n (v4 + 1)
def X6_canLayAll (S : St) (a2 : Nat) (a1 : Int32) (a3 : Int32) : Option (Int32) :=
  (X6_canLayAll_L3 S a1 a2 a3 FU 0).bind fun t => match t with
  | .inr x11 => some x11
  | .inl _ =>
  some 1

def X6_layAll_L6 (v1 : Int32) (v2 : Nat) (v3 : Int32) : Nat → Int32 → Int32 → St → Option (Int32 × St)
  | 0, _, _, _ => none
  | n + 1, v4, v5, S =>
    if (rI S 2 0) ≤ v5 then
    some (v4, S)
    else
    (ckO S v2 7).bind fun _ =>
      (ldA S (v2 + 1) (v3 + v5)).bind fun x3 =>
      (X6_lay S v1 v5 x3).bind fun (x6, S7) =>
      (X6_between S7 v1 v5).bind fun x9 =>
      (if x9 ≤ 0 then
      some (0 : Int32)
      else
      some (1 : Int32)).bind fun x11 =>
      X6_layAll_L6 v1 v2 v3 n (v4 + x11) (v5 + 1) S7
def X6_layAll (S : St) (a2 : Nat) (a1 : Int32) (a3 : Int32) : Option (Int32 × St) :=
  (X6_layAll_L6 a1 a2 a3 FU 0 0 S).bind fun (x14, S15) =>
  some (x14, S15)

def X6_wiresInAll_L13 (S : St) (v3 : Int32) : Nat → Int32 → Int32 → Option (Int32)
  | 0, _, _ => none
  | n + 1, v1, v4 =>
    if v3 ≤ v4 then
    some v1
    else
    (ldA S 4 v4).bind fun x4 =>
      (if x4 ≤ 0 then
      some (0 : Int32)
      else
      some (1 : Int32)).bind fun x7 =>
      X6_wiresInAll_L13 S v3 n (v1 + x7) (v4 + 1)
def X6_wiresInAll (S : St) : Option (Int32) :=
  (alO S 4).bind fun x1 =>
  (X6_wiresInAll_L13 S x1 FU 0 0).bind fun x10 =>
  some x10

def X6_longestWire_L5 (S : St) (v1 : Int32) (v2 : Int32) : Nat → Int32 → Int32 → Option (Int32)
  | 0, _, _ => none
  | n + 1, v3, v4 =>
    if (rI S 2 0) ≤ v4 then
    some v3
    else
    (if ((v2 >>> (v4 &&& 31)) &&& 1) = 0 then
      some v3
      else
      (X6_between S v4 v1).bind fun x7 =>
        some (if v3 < x7 then x7 else v3)).bind fun x3 =>
      X6_longestWire_L5 S v1 v2 n x3 (v4 + 1)
def X6_longestWire (S : St) (a1 : Int32) (a2 : Int32) : Option (Int32) :=
  (X6_longestWire_L5 S a1 a2 FU 0 0).bind fun x8 =>
  some x8

def X6_costOfHolding_L6 (S : St) (v1 : Int32) (v2 : Int32) (v3 : Int32) : Nat → Int32 → Int32 → Option (Int32)
  | 0, _, _ => none
  | n + 1, v4, v5 =>
    if (rI S 2 0) ≤ v5 then
    some v4
    else
    (if ((v2 >>> (v5 &&& 31)) &&& 1) = 0 then
      some v4
      else
      (X6_between S v5 v1).bind fun x7 =>
        some (v4 + (v3 - x7))).bind fun x3 =>
      X6_costOfHolding_L6 S v1 v2 v3 n x3 (v5 + 1)
def X6_costOfHolding (S : St) (a1 : Int32) (a2 : Int32) (a3 : Int32) : Option (Int32) :=
  (X6_costOfHolding_L6 S a1 a2 a3 FU 0 0).bind fun x8 =>
  some x8

def X6_leastBeat_L8 (S : St) (v1 : Int32) : Nat → Int32 → Int32 → Option (Int32)
  | 0, _, _ => none
  | n + 1, v2, v3 =>
    if (rI S 2 0) ≤ v3 then
    some v2
    else
    (if ((v1 >>> (v3 &&& 31)) &&& 1) = 0 then
      some v2
      else
      (X6_value S v3 5).bind fun x9 =>
        some (if x9 < v2 then x9 else v2)).bind fun x5 =>
      X6_leastBeat_L8 S v1 n x5 (v3 + 1)
def X6_leastBeat (S : St) (a1 : Int32) : Option (Int32) :=
  (ldT MOSTV 5).bind fun x1 =>
  (X6_leastBeat_L8 S a1 FU x1 0).bind fun x10 =>
  some x10

def X6_losesWord (S : St) (a1 : Int32) (a2 : Int32) (a3 : Int32) : Option (Int32) :=
  (ldA S 5 (((a1 - 1) * 8) + a2)).bind fun x1 =>
  if ((x1 >>> (a3 &&& 31)) &&& 1) = 0 then
  some 0
  else
  some 1

def X6_loseWord (S : St) (a1 : Int32) (a2 : Int32) (a3 : Int32) (a4 : Int32) : Option (Int32 × St) :=
  (X6_losesWord S a1 a2 a3).bind fun x2 =>
  (if x2 = 0 then
  some (0 : Int32)
  else
  some (1 : Int32)).bind fun x4 =>
  (if a4 = 0 then
  (ldA S 5 (((a1 - 1) * 8) + a2)).bind fun x13 =>
    some (x13 &&& ((1 <<< (a3 &&& 31)) ^^^ (-1)))
  else
  (ldA S 5 (((a1 - 1) * 8) + a2)).bind fun x15 =>
    some (x15 ||| (1 <<< (a3 &&& 31)))).bind fun x8 =>
  (stA S 5 (((a1 - 1) * 8) + a2) x8).bind fun S11 =>
  some (x4, S11)

def X7_refusal (S : St) (a0 : Nat) (a1 : Int32) : Option (Int32) :=
  (ckO S a0 7).bind fun _ =>
  if (rI S a0 0) = (-1) then
  some (-11)
  else
  (ckO S a0 7).bind fun _ =>
    if (rI S a0 0) = a1 then
    some 0
    else
    some (-12)

def X7_holds (S : St) (a0 : Nat) (a1 : Int32) (a2 : Int32) : Option (Int32) :=
  if a1 < 0 then
  some 0
  else
  if a2 < 0 then
    some 0
    else
    (ckO S a0 7).bind fun _ =>
      if ((rI S a0 1) - a2) < a1 then
      some 0
      else
      some 1

def X7_renew (S : St) (a0 : Nat) (a1 : Int32) (a2 : Int32) : Option (Int32 × St) :=
  (ckO S a0 7).bind fun _ =>
  (stF S a0 0 a1).bind fun S2 =>
  (ckO S2 a0 7).bind fun _ =>
  (stF S2 a0 1 a2).bind fun S5 =>
  (ckO S5 a0 7).bind fun _ =>
  (J7_fill_53178 S5 (a0 + 1) 0).bind fun S9 =>
  some (a2, S9)

def X7_empty (S : St) (a0 : Nat) : Option (Int32 × St) :=
  (ckO S a0 7).bind fun _ =>
  (stF S a0 0 (-1)).bind fun S2 =>
  (ckO S2 a0 7).bind fun _ =>
  some ((rI S2 a0 1), S2)

def X7_put (S : St) (a0 : Nat) (a1 : Int32) (a2 : Int32) : Option (Int32 × St) :=
  (ckO S a0 7).bind fun _ =>
  (ckO S a0 7).bind fun _ =>
  (if (rI S a0 0) = 0 then
  some ((a2 : Int32).toInt8.toInt32)
  else
  (ckO S a0 7).bind fun _ =>
    if (rI S a0 0) = 1 then
    some ((a2 : Int32).toInt16.toInt32)
    else
    some a2).bind fun x4 =>
  (stA S (a0 + 1) a1 x4).bind fun S7 =>
  some (1, S7)

def X8_canStand_L2 (S : St) (v0 : Int64) (v2 : Int32) : Nat → Int32 → Option ((Unit) ⊕ (Int32))
  | 0, _ => none
  | n + 1, v3 =>
    if v2 ≤ v3 then
    some (.inl ())
    else
    if (((v0 >>> (((8 * v3) : Int32).toInt64 &&& 63)) : Int64).toInt32 &&& 255) < 32 then
      some (.inr 0)
      else
      if (((v0 >>> (((8 * v3) : Int32).toInt64 &&& 63)) : Int64).toInt32 &&& 255) ≤ 126 then
        X8_canStand_L2 S v0 v2 n (v3 + 1)
        else
        some (.inr 0)
def X8_canStand (S : St) (a0 : Int64) (a2 : Int32) : Option (Int32) :=
  (X8_canStand_L2 S a0 a2 FU 0).bind fun t => match t with
  | .inr x6 => some x6
  | .inl _ =>
  some 1

def X8_append_L5 (v1 : Int64) : Nat → Int32 → St → Option (St)
  | 0, _, _ => none
  | n + 1, v4, S =>
    if v4 < 0 then
    some S
    else
    (stB S 14 (rI S 11 0) ((((v1 >>> (((8 * v4) : Int32).toInt64 &&& 63)) : Int64).toInt32 : Int32).toInt8.toInt32)).bind fun S2 =>
      (stF S2 11 0 ((rI S2 11 0) + 1)).bind fun S4 =>
      X8_append_L5 v1 n (v4 + (-1)) S4
def X8_append (S : St) (a1 : Int64) (a3 : Int32) : Option (Int32 × St) :=
  (X8_append_L5 a1 FU (a3 - 1) S).bind fun S6 =>
  some ((rI S6 11 0), S6)

def X8_peek_L0 : Nat → St → Option (St)
  | 0, _ => none
  | n + 1, S =>
    if (rI S 11 0) ≤ (rI S 11 3) then
    some S
    else
    (ldB S 14 (rI S 11 3)).bind fun x2 =>
      if x2 = 32 then
      (stF S 11 3 ((rI S 11 3) + 1)).bind fun S5 =>
        X8_peek_L0  n S5
      else
      some S
def X8_peek (S : St) : Option (Int32 × St) :=
  (X8_peek_L0  FU  S).bind fun S7 =>
  if (rI S7 11 0) ≤ (rI S7 11 3) then
  some ((-1), S7)
  else
  (ldB S7 14 (rI S7 11 3)).bind fun x10 =>
    some (x10, S7)

def X8_readSound (S : St) (a1 : Int32) : Option (Int32 × St) :=
  (X8_peek S ).bind fun (x2, S3) =>
  if x2 = 45 then
  (stF S3 11 3 ((rI S3 11 3) + 1)).bind fun S5 =>
    (X8_peek S5 ).bind fun (x8, S9) =>
    (if x8 < 49 then
    some ((1 : Int32), S9)
    else
    if 57 < x8 then
      some ((1 : Int32), S9)
      else
      (stF S9 11 3 ((rI S9 11 3) + 1)).bind fun S41 =>
        some ((x8 - 48), S41)).bind fun (x11, S12) =>
    if a1 = 40 then
    (stF S12 11 3 (rI S3 11 3)).bind fun S16 =>
      some (0, S16)
    else
    if ((rI S12 12 0) + x11) ≤ 64 then
      (X8_peek S12 ).bind fun (x20, S21) =>
        (if x20 = 46 then
        some (1 : Int32)
        else
        some (0 : Int32)).bind fun x23 =>
        (if x23 = 0 then
        some S21
        else
        (stF S21 11 3 ((rI S21 11 3) + 1)).bind fun S36 =>
          some S36).bind fun S27 =>
        (if x2 = 45 then
        some (0 : Int32)
        else
        some ((x2 - 97) + 1)).bind fun x31 =>
        (X5_append S27 x31 x11 x23).bind fun S35 =>
        some (1, S35)
      else
      (stF S12 11 3 (rI S3 11 3)).bind fun S38 =>
        some (0, S38)
  else
  if x2 < 97 then
    some (0, S3)
    else
    if x2 ≤ 103 then
      (stF S3 11 3 ((rI S3 11 3) + 1)).bind fun S45 =>
        (X8_peek S45 ).bind fun (x48, S49) =>
        (if x48 < 49 then
        some ((1 : Int32), S49)
        else
        if 57 < x48 then
          some ((1 : Int32), S49)
          else
          (stF S49 11 3 ((rI S49 11 3) + 1)).bind fun S81 =>
            some ((x48 - 48), S81)).bind fun (x51, S52) =>
        if a1 = 40 then
        (stF S52 11 3 (rI S3 11 3)).bind fun S56 =>
          some (0, S56)
        else
        if ((rI S52 12 0) + x51) ≤ 64 then
          (X8_peek S52 ).bind fun (x60, S61) =>
            (if x60 = 46 then
            some (1 : Int32)
            else
            some (0 : Int32)).bind fun x63 =>
            (if x63 = 0 then
            some S61
            else
            (stF S61 11 3 ((rI S61 11 3) + 1)).bind fun S76 =>
              some S76).bind fun S67 =>
            (if x2 = 45 then
            some (0 : Int32)
            else
            some ((x2 - 97) + 1)).bind fun x71 =>
            (X5_append S67 x71 x51 x63).bind fun S75 =>
            some (1, S75)
          else
          (stF S52 11 3 (rI S3 11 3)).bind fun S78 =>
            some (0, S78)
      else
      some (0, S3)

def X8_read_L15 : Nat → Int32 → St → Option ((St) ⊕ (Int32 × St))
  | 0, _, _ => none
  | n + 1, v1, S =>
    if 40 < v1 then
    some (.inl S)
    else
    if v1 ≤ 0 then
      (X8_readSound S v1).bind fun (x8, S9) =>
        if x8 = 0 then
        some (.inl S9)
        else
        X8_read_L15  n (v1 + 1) S9
      else
      (X8_peek S ).bind fun (x12, S13) =>
        if x12 = (-1) then
        some (.inr ((rI S13 12 0), S13))
        else
        (X8_readSound S13 v1).bind fun (x16, S17) =>
          if x16 = 0 then
          some (.inl S17)
          else
          X8_read_L15  n (v1 + 1) S17
def X8_read (S : St) : Option (Int32 × St) :=
  (stF S 12 0 0).bind fun S1 =>
  (stF S1 11 3 0).bind fun S3 =>
  (X8_read_L15  FU 0 S3).bind fun t => match t with
  | .inr (x22, S23) => some (x22, S23)
  | .inl S19 =>
  some (((-20) - (rI S19 11 3)), S19)

def X9_toldTo_L6 (S : St) (v2 : Int32) (v3 : Int32) : Nat → Int32 → Int32 → Option (Int32)
  | 0, _, _ => none
  | n + 1, v4, v5 =>
    if (rI S 2 0) ≤ v5 then
    some v4
    else
    (X6_isCut S v2).bind fun x3 =>
      if x3 = 0 then
      (X6_between S v5 v2).bind fun x6 =>
        (if x6 ≤ 0 then
        some (0 : Int32)
        else
        (X6_losesWord S v3 v5 v2).bind fun x21 =>
          if x21 = 0 then
          some (1 : Int32)
          else
          some (0 : Int32)).bind fun x8 =>
        (if x8 = 0 then
        some v4
        else
        (X6_isCut S v5).bind fun x16 =>
          if x16 = 0 then
          (ldA S (rR S 32 1) v5).bind fun x18 =>
            some (v4 ||| x18)
          else
          some v4).bind fun x12 =>
        X9_toldTo_L6 S v2 v3 n x12 (v5 + 1)
      else
      some v4
def X9_toldTo (S : St) (a2 : Int32) (a3 : Int32) : Option (Int32) :=
  (X9_toldTo_L6 S a2 a3 FU 0 0).bind fun x23 =>
  some x23

def X9_tellFor_L2 (v2 : Int32) : Nat → Int32 → St → Option (St)
  | 0, _, _ => none
  | n + 1, v3, S =>
    if (rI S 2 0) ≤ v3 then
    some S
    else
    (stA S (rR S 32 0) v3 (1 <<< (v3 &&& 31))).bind fun S2 =>
      X9_tellFor_L2 v2 n (v3 + 1) S2
def X9_tellFor_L55 (v2 : Int32) (v3 : Int32) : Nat → Int32 → St → Option (St)
  | 0, _, _ => none
  | n + 1, v5, S =>
    if (rI S 2 0) ≤ v5 then
    some S
    else
    (ldA S (rR S 32 1) v5).bind fun x12 =>
      (X9_toldTo S v5 v3).bind fun x15 =>
      (stA S (rR S 32 0) v5 (x12 ||| x15)).bind fun S16 =>
      X9_tellFor_L55 v2 v3 n (v5 + 1) S16
def X9_tellFor_L27 (v2 : Int32) : Nat → Int32 → St → Option (St)
  | 0, _, _ => none
  | n + 1, v3, S =>
    if v2 < v3 then
    some S
    else
    (stR S 32 1 (rR S 32 0)).bind fun S7 =>
      (stR S7 32 0 (rR S 32 1)).bind fun S9 =>
      (X9_tellFor_L55 v2 v3 FU 0 S9).bind fun S18 =>
      X9_tellFor_L27 v2 n (v3 + 1) S18
def X9_tellFor (S : St) (a2 : Int32) : Option (St) :=
  (X9_tellFor_L2 a2 FU 0 S).bind fun S4 =>
  (X9_tellFor_L27 a2 FU 1 S4).bind fun S21 =>
  some S21

def X9_knownTo (S : St) (a1 : Int32) : Option (Int32) :=
  (ldA S (rR S 32 0) a1).bind fun x1 =>
  some x1

def X10_room (S : St) (a1 : Int32) : Option (Int32 × St) :=
  if a1 < 0 then
  some ((-1), S)
  else
  if a1 ≤ 5 then
    if (rI S 2 0) = 8 then
      some ((-3), S)
      else
      (X6_add S a1).bind fun (x5, S6) =>
        some (x5, S6)
    else
    some ((-1), S)

def X10_set (S : St) (a1 : Int32) (a2 : Int32) (a3 : Int32) : Option (Int32 × St) :=
  (X6_has S a1).bind fun x2 =>
  if x2 = 0 then
  some ((-1), S)
  else
  if a2 < 0 then
    some ((-1), S)
    else
    if 6 ≤ a2 then
      some ((-1), S)
      else
      if a3 < 0 then
        some ((-1), S)
        else
        (ldT MOSTV a2).bind fun x7 =>
          if a3 ≤ x7 then
          (X6_change S a1 a2 a3).bind fun (x11, S12) =>
            some (x11, S12)
          else
          some ((-1), S)

def X10_wire (S : St) (a1 : Int32) (a2 : Int32) (a3 : Int32) : Option (Int32 × St) :=
  (X6_hasTwo S a1 a2).bind fun x2 =>
  if x2 = 0 then
  some ((-1), S)
  else
  if a3 < 0 then
    some ((-1), S)
    else
    if a3 ≤ 400 then
      (X6_lay S a1 a2 a3).bind fun (x7, S8) =>
        some (x7, S8)
      else
      some ((-1), S)

def X10_isSheet (S : St) (a0 : Int32) : Option (Int32) :=
  if a0 < 0 then
  some 0
  else
  if 4 ≤ a0 then
    some 0
    else
    some 1

def X10_isLane (S : St) (a0 : Int32) : Option (Int32) :=
  if a0 < 0 then
  some 0
  else
  if 2 < a0 then
    some 0
    else
    some 1

def X10_wires (S : St) (a1 : Int32) (a2 : Int32) (a3 : Int32) (a4 : Int32) : Option (Int32 × St) :=
  (X6_has S a1).bind fun x2 =>
  if x2 = 0 then
  some ((-1), S)
  else
  (X10_isSheet S a2).bind fun x5 =>
    if x5 = 0 then
    some ((-1), S)
    else
    (X10_isLane S a3).bind fun x8 =>
      if x8 = 0 then
      some ((-1), S)
      else
      (ldS a2).bind fun y10 =>
        (ckO S y10 7).bind fun _ =>
        (X7_refusal S y10 a3).bind fun x14 =>
        if x14 = 0 then
        (ckO S y10 7).bind fun _ =>
          (X7_holds S y10 a4 (rI S 2 0)).bind fun x18 =>
          if x18 = 0 then
          some ((-13), S)
          else
          (X6_canLayAll S y10 a1 a4).bind fun x21 =>
            if x21 = 0 then
            some ((-2), S)
            else
            (X6_layAll S y10 a1 a4).bind fun (x24, S25) =>
              some (x24, S25)
        else
        some (x14, S)

def X10_pace (S : St) (a1 : Int32) : Option (Int32 × St) :=
  if a1 < 1 then
  some ((-1), S)
  else
  if a1 ≤ 2000 then
    (stF S 2 1 a1).bind fun S3 =>
      some ((rI S 2 1), S3)
    else
    some ((-1), S)

def X10_time (S : St) (a1 : Int32) (a2 : Int32) : Option (Int32 × St) :=
  (X6_has S a1).bind fun x2 =>
  if x2 = 0 then
  some ((-1000001), S)
  else
  if a2 < 0 then
    some ((-1000001), S)
    else
    if a2 ≤ 40 then
      (X6_sings S a1).bind fun x7 =>
        if x7 = 0 then
        some ((-1000004), S)
        else
        (X0_listen S ).bind fun S10 =>
          (X0_singTo S10 a2).bind fun S12 =>
          (X0_timeOf S12 a1).bind fun x14 =>
          some (x14, S12)
      else
      some ((-1000001), S)

def X10_paceAt (S : St) (a1 : Int32) : Option (Int32 × St) :=
  if a1 < 1 then
  some ((-1), S)
  else
  if a1 ≤ 40 then
    (X6_singers S ).bind fun x4 =>
      if x4 = 0 then
      some ((-4), S)
      else
      (X0_listen S ).bind fun S7 =>
        (X0_singTo S7 a1).bind fun S9 =>
        (X0_meanPace S9 ).bind fun x11 =>
        some (x11, S9)
    else
    some ((-1), S)

def X10_slows_L55 (v1 : Int32) (v2 : Int32) : Nat → Int32 → St → Option ((St) ⊕ (Int32 × St))
  | 0, _, _ => none
  | n + 1, v3, S =>
    if 400 < v3 then
    some (.inl S)
    else
    (X0_stretchWires S v3).bind fun S12 =>
      (X0_singTo S12 v1).bind fun S14 =>
      (X0_meanPace S14 ).bind fun x16 =>
      if x16 ≤ v2 then
      X10_slows_L55 v1 v2 n (v3 + 1) S14
      else
      some (.inr (v3, S14))
def X10_slows (S : St) (a1 : Int32) (a2 : Int32) : Option (Int32 × St) :=
  if a1 < 1 then
  some ((-1), S)
  else
  if 40 < a1 then
    some ((-1), S)
    else
    if a2 < 0 then
      some ((-1), S)
      else
      if a2 ≤ 99999 then
        (X6_singers S ).bind fun x6 =>
          if x6 = 0 then
          some ((-4), S)
          else
          (X0_listen S ).bind fun S9 =>
            (X10_slows_L55 a1 a2 FU 1 S9).bind fun t => match t with
            | .inr (x21, S22) => some (x21, S22)
            | .inl S18 =>
            some ((-4), S18)
        else
        some ((-1), S)

def X10_apart (S : St) (a1 : Int32) : Option (Int32 × St) :=
  if a1 < 0 then
  some ((-1), S)
  else
  if a1 ≤ 40 then
    (X6_singers S ).bind fun x4 =>
      if x4 = 0 then
      some ((-4), S)
      else
      (X0_listen S ).bind fun S7 =>
        (X0_singTo S7 a1).bind fun S9 =>
        (X0_spread S9 ).bind fun x11 =>
        some (x11, S9)
    else
    some ((-1), S)

def X10_count (S : St) (a1 : Int32) : Option (Int32) :=
  if a1 = 0 then
  some (rI S 2 0)
  else if a1 = 1 then
  (X6_singers S ).bind fun x4 =>
    (J6_bitCount_0f7a4 S x4).bind fun x6 =>
    some x6
  else if a1 = 2 then
  (X6_wiresInAll S ).bind fun x9 =>
    some x9
  else if a1 = 3 then
  some (rI S 6 0)
  else if a1 = 4 then
  (X5_breaths S ).bind fun x13 =>
    some x13
  else if a1 = 5 then
  some (rI S 8 0)
  else 
  some (-1)

def X10_hold (S : St) (a1 : Int32) (a2 : Int32) : Option (Int32) :=
  (X6_has S a1).bind fun x2 =>
  if x2 = 0 then
  some (-1)
  else
  if a2 < 0 then
    some (-1)
    else
    if a2 ≤ 1 then
      (X6_singers S ).bind fun x7 =>
        (X6_isCut S a1).bind fun x9 =>
        if x9 = 0 then
        (X6_reachedByAll S a1 (x7 &&& ((1 <<< (a1 &&& 31)) ^^^ (-1)))).bind fun x12 =>
          if x12 = 0 then
          some (-4)
          else
          (X6_longestWire S a1 (x7 &&& ((1 <<< (a1 &&& 31)) ^^^ (-1)))).bind fun x15 =>
            if a2 = 0 then
            some x15
            else
            (X6_costOfHolding S a1 (x7 &&& ((1 <<< (a1 &&& 31)) ^^^ (-1))) x15).bind fun x18 =>
              some x18
        else
        some (-4)
      else
      some (-1)

def X10_together (S : St) (a1 : Int32) (a2 : Int32) : Option (Int32 × St) :=
  if a1 = 0 then
  some ((-1), S)
  else
  (X6_all S ).bind fun x3 =>
    if (a1 &&& (x3 ^^^ (-1))) = 0 then
    if a2 = 8 then
      (X2_firstFailing S a1).bind fun (x20, S21) =>
        some (x20, S21)
      else
      (X6_has S a2).bind fun x7 =>
        if x7 = 0 then
        some ((-1), S)
        else
        (X6_sings S a2).bind fun x10 =>
          if x10 = 0 then
          some ((-2), S)
          else
          if ((a1 >>> (a2 &&& 31)) &&& 1) = 0 then
            (X2_firstFailing S a1).bind fun (x14, S15) =>
              if x14 = (-4) then
              (X2_leadOf S15 a2).bind fun x18 =>
                some (x18, S15)
              else
              some ((-4), S15)
            else
            some ((-2), S)
    else
    some ((-1), S)

def X10_type (S : St) (a1 : Int64) (a3 : Int32) : Option (Int32 × St) :=
  if a3 < 1 then
  some ((-1), S)
  else
  if 8 < a3 then
    some ((-1), S)
    else
    (X8_canStand S a1 a3).bind fun x4 =>
      if x4 = 0 then
      some ((-1), S)
      else
      if ((rI S 11 0) + a3) ≤ 120 then
        (X8_append S a1 a3).bind fun (x8, S9) =>
          some (x8, S9)
        else
        some ((-3), S)

def X10_piece (S : St) : Option (Int32 × St) :=
  (X8_read S ).bind fun (x2, S3) =>
  (if x2 ≤ 0 then
  some S3
  else
  (X5_take S3 6 12).bind fun S11 =>
    some S11).bind fun S5 =>
  (stF S5 11 0 0).bind fun S8 =>
  some (x2, S8)

def X10_sound (S : St) (a1 : Int32) : Option (Int32) :=
  if a1 < 0 then
  some (-1)
  else
  if a1 < (rI S 6 0) then
    (ldA S 7 a1).bind fun x3 =>
      some x3
    else
    some (-1)

def X10_fit (S : St) (a1 : Int32) : Option (Int32 × St) :=
  if a1 < 0 then
  some ((-1), S)
  else
  if a1 ≤ 127 then
    (stF S 1 3 a1).bind fun S3 =>
      some ((rI S 1 3), S3)
    else
    some ((-1), S)

def X10_clashes (S : St) (a1 : Int32) : Option (Int32) :=
  if a1 < 1 then
  some (-1)
  else
  if a1 < (rI S 6 0) then
    (X5_clashesAt S a1 (rI S 1 3)).bind fun x4 =>
      some x4
    else
    some (-1)

def X10_canon_L10 (S : St) (v1 : Int32) : Nat → Int32 → Int32 → Option ((Unit) ⊕ (Int32))
  | 0, _, _ => none
  | n + 1, v2, v3 =>
    if (rI S 6 0) ≤ v3 then
    some (.inl ())
    else
    (X5_clashesAt S v3 (rI S 1 3)).bind fun x4 =>
      if x4 = 0 then
      if v2 = v1 then
        some (.inr v3)
        else
        X10_canon_L10 S v1 n (v2 + 1) (v3 + 1)
      else
      X10_canon_L10 S v1 n v2 (v3 + 1)
def X10_canon (S : St) (a1 : Int32) : Option (Int32) :=
  if 0 ≤ a1 then
  (X10_canon_L10 S a1 FU 0 1).bind fun t => match t with
    | .inr x9 => some x9
    | .inl _ =>
    some (-4)
  else
  some (-1)

def X10_sea (S : St) (a1 : Int32) (a2 : Int32) : Option (Int32) :=
  if a1 < 1 then
  some (-1)
  else
  if 63 < a1 then
    some (-1)
    else
    if a2 < 1 then
      some (-1)
      else
      if a2 ≤ 40000 then
        (rmO a2 a1).bind fun x5 =>
          if x5 = 0 then
          (dvO a2 a1).bind fun x8 =>
            if x8 ≤ 2000 then
            (dvO a2 a1).bind fun x11 =>
              some x11
            else
            some (-4)
          else
          some (-4)
        else
        some (-1)

def X10_lose (S : St) (a1 : Int32) (a2 : Int32) (a3 : Int32) (a4 : Int32) : Option (Int32 × St) :=
  if a1 < 1 then
  some ((-1), S)
  else
  if 7 < a1 then
    some ((-1), S)
    else
    (X6_hasTwo S a2 a3).bind fun x4 =>
      if x4 = 0 then
      some ((-1), S)
      else
      (X6_loseWord S a1 a2 a3 a4).bind fun (x7, S8) =>
        some (x7, S8)

def X10_goes (S : St) (a1 : Int32) (a2 : Int32) : Option (Int32 × St) :=
  (X6_has S a1).bind fun x2 =>
  if x2 = 0 then
  some ((-1), S)
  else
  if a2 < 0 then
    some ((-1), S)
    else
    if a2 ≤ 7 then
      (X6_uncut S ).bind fun x7 =>
        (X9_tellFor S a2).bind fun S9 =>
        (X6_isCut S9 a1).bind fun x11 =>
        if x11 = 0 then
        (X9_knownTo S9 a1).bind fun x14 =>
          if (x7 &&& (x14 ^^^ (-1))) = 0 then
          (X6_leastBeat S9 x7).bind fun x17 =>
            (X5_behindLastBreath S9 x17).bind fun x19 =>
            some (x19, S9)
          else
          some ((-4), S9)
        else
        some ((-4), S9)
      else
      some ((-1), S)

def X10_knows (S : St) (a1 : Int32) (a2 : Int32) : Option (Int32 × St) :=
  (X6_has S a1).bind fun x2 =>
  if x2 = 0 then
  some ((-1), S)
  else
  if a2 < 0 then
    some ((-1), S)
    else
    if a2 ≤ 7 then
      (X9_tellFor S a2).bind fun S7 =>
        (X9_knownTo S7 a1).bind fun x9 =>
        some (x9, S7)
      else
      some ((-1), S)

def X10_loss (S : St) (a1 : Int64) : Option (Int32 × St) :=
  if (lg_cmp (a1 &&& (-281474976710656)) 0) = 0 then
  if (rI S 8 0) = 8 then
    some ((-3), S)
    else
    (X3_add S a1).bind fun (x4, S5) =>
      some (x4, S5)
  else
  some ((-1), S)

def X10_lost (S : St) (a1 : Int32) (a2 : Int32) : Option (Int32) :=
  if a1 < 0 then
  some (-1)
  else
  if (rI S 8 0) ≤ a1 then
    some (-1)
    else
    if a2 < 1 then
      some (-1)
      else
      if a2 ≤ 12 then
        (X3_lostOf S a1 a2).bind fun x6 =>
          some x6
        else
        some (-1)

def X10_group_L3 (S : St) : Nat → Int32 → Option ((Unit) ⊕ (Int32))
  | 0, _ => none
  | n + 1, v1 =>
    if v1 < 1 then
    some (.inl ())
    else
    (X3_losesNothing S v1).bind fun x3 =>
      if x3 = 0 then
      X10_group_L3 S  n (v1 + (-1))
      else
      some (.inr v1)
def X10_group (S : St) : Option (Int32) :=
  (X10_group_L3 S  FU 12).bind fun t => match t with
  | .inr x7 => some x7
  | .inl _ =>
  some (-4)

def X10_clear (S : St) : Option (Int32 × St) :=
  (stF S 8 0 0).bind fun S1 =>
  some ((rI S 8 0), S1)

def X10_most (S : St) (a1 : Int32) : Option (Int32 × St) :=
  if a1 < 1 then
  some ((-1), S)
  else
  if a1 ≤ 7 then
    (stF S 2 2 a1).bind fun S3 =>
      some ((rI S 2 2), S3)
    else
    some ((-1), S)

def X10_net (S : St) : Option (Int32 × St) :=
  (X6_uncut S ).bind fun x2 =>
  (J6_bitCount_0f7a4 S x2).bind fun x4 =>
  if x4 < 2 then
  some ((-2), S)
  else
  if x4 ≤ 6 then
    (X4_leastWait S ).bind fun (x8, S9) =>
      some (x8, S9)
    else
    some ((-2), S)

def X10_sheet (S : St) (a1 : Int32) (a2 : Int32) (a3 : Int32) : Option (Int32 × St) :=
  (X10_isSheet S a1).bind fun x2 =>
  if x2 = 0 then
  some ((-1), S)
  else
  (X10_isLane S a2).bind fun x5 =>
    if x5 = 0 then
    some ((-1), S)
    else
    if a3 ≤ 40 then
      if 0 ≤ a3 then
        (ldS a1).bind fun y9 =>
          (ckO S y9 7).bind fun _ =>
          (X7_renew S y9 a2 a3).bind fun (x13, S14) =>
          some (x13, S14)
        else
        some ((-14), S)
      else
      some ((-1), S)

def X10_drop (S : St) (a1 : Int32) : Option (Int32 × St) :=
  (X10_isSheet S a1).bind fun x2 =>
  if x2 = 0 then
  some ((-1), S)
  else
  (ldS a1).bind fun y4 =>
    (ckO S y4 7).bind fun _ =>
    if (rI S y4 0) = (-1) then
    some ((-11), S)
    else
    (ldS a1).bind fun y8 =>
      (ckO S y8 7).bind fun _ =>
      (X7_empty S y8).bind fun (x12, S13) =>
      some (x12, S13)

def X10_item (S : St) (a1 : Int32) (a2 : Int32) (a3 : Int32) (a4 : Int32) : Option (Int32 × St) :=
  (X10_isSheet S a1).bind fun x2 =>
  if x2 = 0 then
  some ((-1), S)
  else
  (X10_isLane S a2).bind fun x5 =>
    if x5 = 0 then
    some ((-1), S)
    else
    (ldS a1).bind fun y7 =>
      (ckO S y7 7).bind fun _ =>
      (X7_refusal S y7 a2).bind fun x11 =>
      if x11 = 0 then
      (ldS a1).bind fun y13 =>
        (ckO S y13 7).bind fun _ =>
        (X7_holds S y13 a3 1).bind fun x17 =>
        if x17 = 0 then
        some ((-13), S)
        else
        (ldS a1).bind fun y19 =>
          (ckO S y19 7).bind fun _ =>
          (X7_put S y19 a3 a4).bind fun (x23, S24) =>
          some (x23, S24)
      else
      some (x11, S)

def X10_copy (S : St) (a1 : Int32) (a2 : Int32) (a3 : Int32) (a4 : Int32) (a5 : Int32) : Option (Int32 × St) :=
  (X10_isSheet S a1).bind fun x2 =>
  if x2 = 0 then
  some ((-1), S)
  else
  (X10_isSheet S a3).bind fun x5 =>
    if x5 = 0 then
    some ((-1), S)
    else
    (ldS a1).bind fun y7 =>
      (ckO S y7 7).bind fun _ =>
      if (rI S y7 0) = (-1) then
      some ((-11), S)
      else
      (ldS a3).bind fun y11 =>
        (ckO S y7 7).bind fun _ =>
        (ckO S y11 7).bind fun _ =>
        (X7_refusal S y11 (rI S y7 0)).bind fun x16 =>
        if x16 = 0 then
        (ckO S y7 7).bind fun _ =>
          (X7_holds S y7 a2 a5).bind fun x20 =>
          if x20 = 0 then
          some ((-13), S)
          else
          (ldS a3).bind fun y22 =>
            (ckO S y22 7).bind fun _ =>
            (X7_holds S y22 a4 a5).bind fun x26 =>
            if x26 = 0 then
            some ((-13), S)
            else
            (ckO S y7 7).bind fun _ =>
              (ldS a3).bind fun y29 =>
              (ckO S y29 7).bind fun _ =>
              (cpI S (y7 + 1) a2 (y29 + 1) a4 a5).bind fun S32 =>
              some (a5, S32)
        else
        some (x16, S)

def X11_in (S : St) (a0 : Int64) (a2 : Int64) (a4 : Int64) : Option (Int32) :=
  if (lg_cmp a0 a2) < 0 then
  some 0
  else
  if 0 < (lg_cmp a0 a4) then
    some 0
    else
    some 1

def X11_rooms (S : St) : Option (Int32) :=
  (ldA S 61 0).bind fun x1 =>
  some x1

def X11_isRoom (S : St) (a1 : Int32) : Option (Int32) :=
  (ldA S 61 0).bind fun x1 =>
  (X11_in S ((a1 : Int32).toInt64) 0 (((x1 - 1) : Int32).toInt64)).bind fun x4 =>
  some x4

def X11_of (S : St) (a1 : Int32) (a2 : Int32) : Option (Int32) :=
  (ldA S 61 ((8 + (6 * a1)) + a2)).bind fun x1 =>
  some x1

def X11_wireOf (S : St) (a1 : Int32) (a2 : Int32) : Option (Int32) :=
  (ldA S 61 ((64 + (8 * a1)) + a2)).bind fun x1 =>
  some x1

def X11_sings (S : St) (a1 : Int32) : Option (Int32) :=
  (X11_of S a1 0).bind fun x2 =>
  if 4 ≤ x2 then
  some 0
  else
  some 1

def X11_isCut (S : St) (a1 : Int32) : Option (Int32) :=
  (X11_of S a1 0).bind fun x2 =>
  if x2 = 5 then
  some 1
  else
  some 0

def X11_highest (S : St) (a0 : Int32) : Option (Int32) :=
  if a0 = 0 then
  some 5
  else
  if a0 = 1 then
    some 99
    else
    if a0 = 2 then
      some 100
      else
      if a0 = 3 then
        some 999
        else
        if a0 = 4 then
          some 400
          else
          some 63

def X11_room (S : St) (a1 : Int32) : Option (Int32 × St) :=
  (X11_in S ((a1 : Int32).toInt64) 0 5).bind fun x2 =>
  if x2 = 0 then
  some ((-1), S)
  else
  (X11_rooms S ).bind fun x5 =>
    if x5 = 8 then
    some ((-3), S)
    else
    (X11_rooms S ).bind fun x8 =>
      (stA S 61 (8 + (6 * x8)) a1).bind fun S9 =>
      (stA S9 61 ((8 + (6 * x8)) + 1) 10).bind fun S11 =>
      (stA S11 61 ((8 + (6 * x8)) + 2) 50).bind fun S13 =>
      (ldA S13 61 0).bind fun x15 =>
      (stA S13 61 0 (x15 + 1)).bind fun S17 =>
      (X11_rooms S17 ).bind fun x20 =>
      some ((x20 - 1), S17)

def X11_set (S : St) (a1 : Int32) (a2 : Int32) (a3 : Int32) : Option (Int32 × St) :=
  (X11_isRoom S a1).bind fun x2 =>
  if x2 = 0 then
  some ((-1), S)
  else
  (X11_in S ((a2 : Int32).toInt64) 0 5).bind fun x5 =>
    if x5 = 0 then
    some ((-1), S)
    else
    (X11_highest S a2).bind fun x8 =>
      (X11_in S ((a3 : Int32).toInt64) 0 ((x8 : Int32).toInt64)).bind fun x10 =>
      if x10 = 0 then
      some ((-1), S)
      else
      (X11_of S a1 a2).bind fun x13 =>
        (stA S 61 ((8 + (6 * a1)) + a2) a3).bind fun S14 =>
        some (x13, S14)

def X11_wire (S : St) (a1 : Int32) (a2 : Int32) (a3 : Int32) : Option (Int32 × St) :=
  (X11_isRoom S a1).bind fun x2 =>
  if x2 = 0 then
  some ((-1), S)
  else
  (X11_isRoom S a2).bind fun x5 =>
    if x5 = 0 then
    some ((-1), S)
    else
    if a1 = a2 then
      some ((-1), S)
      else
      (X11_in S ((a3 : Int32).toInt64) 0 400).bind fun x9 =>
        if x9 = 0 then
        some ((-1), S)
        else
        (X11_wireOf S a1 a2).bind fun x12 =>
          (stA S 61 ((64 + (8 * a1)) + a2) a3).bind fun S13 =>
          some (x12, S13)

def X11_isSheet (S : St) (a0 : Int32) : Option (Int32) :=
  (X11_in S ((a0 : Int32).toInt64) 0 3).bind fun x2 =>
  some x2

def X11_isLane (S : St) (a0 : Int32) : Option (Int32) :=
  (X11_in S ((a0 : Int32).toInt64) 0 2).bind fun x2 =>
  some x2

def X11_finds (S : St) (a1 : Int32) (a2 : Int32) (a3 : Int32) (a4 : Int32) : Option (Int32) :=
  (ldA S 77 a1).bind fun x1 =>
  if 0 ≤ x1 then
  (ldA S 77 a1).bind fun x4 =>
    if x4 = a2 then
    if a3 < 0 then
      some (-13)
      else
      (ldA S 78 a1).bind fun x8 =>
        if (lg_cmp ((a3 : Int32).toInt64 + (a4 : Int32).toInt64) ((x8 : Int32).toInt64)) ≤ 0 then
        some 0
        else
        some (-13)
    else
    some (-12)
  else
  some (-11)

def X11_wires_L49 (S : St) (v1 : Int32) (v2 : Int32) (v4 : Int32) : Nat → Int32 → Option ((Unit) ⊕ (Int32 × St))
  | 0, _ => none
  | n + 1, v6 =>
    (X11_rooms S ).bind fun x16 =>
    if x16 ≤ v6 then
    some (.inl ())
    else
    (ldA S 79 (((40 * v2) + v4) + v6)).bind fun x18 =>
      (if v6 = v1 then
      some (0 : Int64)
      else
      some (400 : Int64)).bind fun x21 =>
      (X11_in S ((x18 : Int32).toInt64) 0 x21).bind fun x25 =>
      if x25 = 0 then
      some (.inr ((-2), S))
      else
      X11_wires_L49 S v1 v2 v4 n (v6 + 1)
def X11_wires_L109 (v1 : Int32) (v2 : Int32) (v4 : Int32) : Nat → Int32 → Int32 → St → Option (Int32 × St)
  | 0, _, _, _ => none
  | n + 1, v6, v7, S =>
    (X11_rooms S ).bind fun x29 =>
    if x29 ≤ v7 then
    some (v6, S)
    else
    (ldA S 79 (((40 * v2) + v4) + v7)).bind fun x31 =>
      (stA S 61 ((64 + (8 * v1)) + v7) x31).bind fun S33 =>
      (ldA S33 79 (((40 * v2) + v4) + v7)).bind fun x35 =>
      (if x35 ≤ 0 then
      some (0 : Int32)
      else
      some (1 : Int32)).bind fun x38 =>
      X11_wires_L109 v1 v2 v4 n (v6 + x38) (v7 + 1) S33
def X11_wires (S : St) (a1 : Int32) (a2 : Int32) (a3 : Int32) (a4 : Int32) : Option (Int32 × St) :=
  (X11_isRoom S a1).bind fun x2 =>
  if x2 = 0 then
  some ((-1), S)
  else
  (X11_isSheet S a2).bind fun x5 =>
    if x5 = 0 then
    some ((-1), S)
    else
    (X11_isLane S a3).bind fun x8 =>
      if x8 = 0 then
      some ((-1), S)
      else
      (X11_rooms S ).bind fun x11 =>
        (X11_finds S a2 a3 a4 x11).bind fun x13 =>
        if 0 ≤ x13 then
        (X11_wires_L49 S a1 a2 a4 FU 0).bind fun t => match t with
          | .inr (x46, S47) => some (x46, S47)
          | .inl _ =>
          (X11_wires_L109 a1 a2 a4 FU 0 0 S).bind fun (x41, S42) =>
          some (x41, S42)
        else
        some (x13, S)

def X11_pace (S : St) (a1 : Int32) : Option (Int32 × St) :=
  (X11_in S ((a1 : Int32).toInt64) 1 2000).bind fun x2 =>
  if x2 = 0 then
  some ((-1), S)
  else
  (ldA S 61 128).bind fun x4 =>
    (stA S 61 128 a1).bind fun S6 =>
    some (x4, S6)

def X11_pull_L31 (S : St) (v1 : Int32) (v2 : Int32) (v3 : Int32) (v6 : Int32) : Nat → Int32 → Int32 → Int32 → Option (Int32 × Int32)
  | 0, _, _, _ => none
  | n + 1, v4, v5, v7 =>
    (X11_rooms S ).bind fun x8 =>
    if x8 ≤ v7 then
    some (v4, v5)
    else
    (if v7 = v1 then
      some (v4, v5)
      else
      (X11_sings S v7).bind fun x16 =>
        if x16 = 0 then
        some (v4, v5)
        else
        (X11_wireOf S v7 v1).bind fun x19 =>
          if x19 ≤ 0 then
          some (v4, v5)
          else
          (if v3 ≤ 0 then
            (X11_wireOf S v7 v1).bind fun x30 =>
              some x30
            else
            some v3).bind fun x22 =>
            (ldA S 63 ((8 * v2) + v7)).bind fun x25 =>
            (ldA S 63 ((8 * v2) + v1)).bind fun x27 =>
            some ((v4 + 1), (v5 + (((x25 + x22) - v6) - x27)))).bind fun (x11, x12) =>
      X11_pull_L31 S v1 v2 v3 v6 n x11 x12 (v7 + 1)
def X11_pull (S : St) (a1 : Int32) (a2 : Int32) (a3 : Int32) : Option (Int32) :=
  (X11_of S a1 0).bind fun x2 =>
  (if x2 = 3 then
  (X11_of S a1 4).bind fun x39 =>
    some x39
  else
  some (0 : Int32)).bind fun x4 =>
  (X11_pull_L31 S a1 a2 a3 x4 FU 0 0 0).bind fun (x31, x32) =>
  if x31 = 0 then
  some 0
  else
  (dvO x32 x31).bind fun x35 =>
    some x35

def X11_laysBeats_L12 (v1 : Int32) (v2 : Int32) (v3 : Int32) : Nat → Int32 → St → Option (St)
  | 0, _, _ => none
  | n + 1, v4, S =>
    (X11_rooms S ).bind fun x4 =>
    if x4 ≤ v4 then
    some S
    else
    (X11_of S v4 0).bind fun x7 =>
      (if x7 = 2 then
      (X11_of S v4 3).bind fun x15 =>
        some (-x15)
      else
      some (0 : Int32)).bind fun x9 =>
      (stA S 63 v4 x9).bind fun S12 =>
      X11_laysBeats_L12 v1 v2 v3 n (v4 + 1) S12
def X11_laysBeats_L69 (v1 : Int32) (v2 : Int32) (v3 : Int32) (v4 : Int32) : Nat → Int32 → St → Option (St)
  | 0, _, _ => none
  | n + 1, v5, S =>
    (X11_rooms S ).bind fun x20 =>
    if x20 ≤ v5 then
    some S
    else
    (X11_of S v5 0).bind fun x23 =>
      (ldA S 63 ((8 * (v4 - 1)) + v5)).bind fun x24 =>
      (X11_of S v5 1).bind fun x27 =>
      (X11_of S v5 2).bind fun x29 =>
      (X11_pull S v5 (v4 - 1) v2).bind fun x31 =>
      (dvO (x29 * x31) 100).bind fun x32 =>
      (if (((x24 + v3) + x27) + x32) ≤ x24 then
      some (x24 + 1)
      else
      some (((x24 + v3) + x27) + x32)).bind fun x35 =>
      (if x23 = 1 then
      some (v4 * v3)
      else
      if x23 = 2 then
        (X11_of S v5 3).bind fun x46 =>
          some ((v4 * v3) - x46)
        else
        some x35).bind fun x39 =>
      (stA S 63 ((8 * v4) + v5) x39).bind fun S42 =>
      X11_laysBeats_L69 v1 v2 v3 v4 n (v5 + 1) S42
def X11_laysBeats_L60 (v1 : Int32) (v2 : Int32) (v3 : Int32) : Nat → Int32 → St → Option (St)
  | 0, _, _ => none
  | n + 1, v4, S =>
    if v1 < v4 then
    some S
    else
    (X11_laysBeats_L69 v1 v2 v3 v4 FU 0 S).bind fun S47 =>
      X11_laysBeats_L60 v1 v2 v3 n (v4 + 1) S47
def X11_laysBeats (S : St) (a1 : Int32) (a2 : Int32) : Option (St) :=
  (ldA S 61 128).bind fun x1 =>
  (X11_laysBeats_L12 a1 a2 x1 FU 0 S).bind fun S16 =>
  (X11_laysBeats_L60 a1 a2 x1 FU 1 S16).bind fun S50 =>
  some S50

def X11_time (S : St) (a1 : Int32) (a2 : Int32) : Option (Int32 × St) :=
  (X11_isRoom S a1).bind fun x2 =>
  if x2 = 0 then
  some ((-1000001), S)
  else
  (X11_in S ((a2 : Int32).toInt64) 0 40).bind fun x5 =>
    if x5 = 0 then
    some ((-1000001), S)
    else
    (X11_sings S a1).bind fun x8 =>
      if x8 = 0 then
      some ((-1000004), S)
      else
      (X11_laysBeats S a2 0).bind fun S11 =>
        (ldA S11 63 ((8 * a2) + a1)).bind fun x12 =>
        some (x12, S11)

def X11_singers_L4 (S : St) : Nat → Int32 → Int32 → Option (Int32)
  | 0, _, _ => none
  | n + 1, v1, v2 =>
    (X11_rooms S ).bind fun x2 =>
    if x2 ≤ v2 then
    some v1
    else
    (X11_sings S v2).bind fun x5 =>
      (if x5 = 0 then
      some (0 : Int32)
      else
      some ((1 <<< (v2 &&& 31)) : Int32)).bind fun x7 =>
      X11_singers_L4 S  n (v1 ||| x7) (v2 + 1)
def X11_singers (S : St) : Option (Int32) :=
  (X11_singers_L4 S  FU 0 0).bind fun x10 =>
  some x10

def X11_size_L4 (S : St) (v0 : Int32) : Nat → Int32 → Int32 → Option (Int32)
  | 0, _, _ => none
  | n + 1, v1, v2 =>
    if 8 ≤ v2 then
    some v1
    else
    X11_size_L4 S v0 n (v1 + ((v0 >>> (v2 &&& 31)) &&& 1)) (v2 + 1)
def X11_size (S : St) (a0 : Int32) : Option (Int32) :=
  (X11_size_L4 S a0 FU 0 0).bind fun x2 =>
  some x2

def X11_paceBy_L17 (S : St) (v1 : Int32) (v3 : Int32) : Nat → Int32 → Int32 → Option (Int32)
  | 0, _, _ => none
  | n + 1, v4, v5 =>
    (X11_rooms S ).bind fun x6 =>
    if x6 ≤ v5 then
    some v4
    else
    (if ((v3 >>> (v5 &&& 31)) &&& 1) = 1 then
      (ldA S 63 ((8 * v1) + v5)).bind fun x12 =>
        (ldA S 63 ((8 * (v1 - 1)) + v5)).bind fun x14 =>
        some (x12 - x14)
      else
      some (0 : Int32)).bind fun x9 =>
      X11_paceBy_L17 S v1 v3 n (v4 + x9) (v5 + 1)
def X11_paceBy (S : St) (a1 : Int32) (a2 : Int32) : Option (Int32 × St) :=
  (X11_laysBeats S a1 a2).bind fun S2 =>
  (X11_singers S2 ).bind fun x4 =>
  (X11_paceBy_L17 S2 a1 x4 FU 0 0).bind fun x16 =>
  (X11_size S2 x4).bind fun x19 =>
  (dvO x16 x19).bind fun x20 =>
  some (x20, S2)

def X11_paceAt (S : St) (a1 : Int32) : Option (Int32 × St) :=
  (X11_in S ((a1 : Int32).toInt64) 1 40).bind fun x2 =>
  if x2 = 0 then
  some ((-1), S)
  else
  (X11_singers S ).bind fun x5 =>
    if x5 = 0 then
    some ((-4), S)
    else
    (X11_paceBy S a1 0).bind fun (x8, S9) =>
      some (x8, S9)

def X11_slows_L28 (v1 : Int32) (v2 : Int32) : Nat → Int32 → St → Option ((St) ⊕ (Int32 × St))
  | 0, _, _ => none
  | n + 1, v3, S =>
    if 400 < v3 then
    some (.inl S)
    else
    (X11_singers S ).bind fun x9 =>
      if x9 ≤ 0 then
      some (.inl S)
      else
      (X11_paceBy S v1 v3).bind fun (x12, S13) =>
        if x12 ≤ v2 then
        X11_slows_L28 v1 v2 n (v3 + 1) S13
        else
        some (.inr (v3, S13))
def X11_slows (S : St) (a1 : Int32) (a2 : Int32) : Option (Int32 × St) :=
  (X11_in S ((a1 : Int32).toInt64) 1 40).bind fun x2 =>
  if x2 = 0 then
  some ((-1), S)
  else
  (X11_in S ((a2 : Int32).toInt64) 0 99999).bind fun x5 =>
    if x5 = 0 then
    some ((-1), S)
    else
    (X11_slows_L28 a1 a2 FU 1 S).bind fun t => match t with
      | .inr (x18, S19) => some (x18, S19)
      | .inl S15 =>
      some ((-4), S15)

def X11_apart_L43 (S : St) (v1 : Int32) (v2 : Int32) : Nat → Int32 → Int32 → Int32 → Int32 → Option (Int32 × Int32)
  | 0, _, _, _, _ => none
  | n + 1, v3, v4, v5, v6 =>
    (X11_rooms S ).bind fun x10 =>
    if x10 ≤ v6 then
    some (v4, v5)
    else
    (if ((v2 >>> (v6 &&& 31)) &&& 1) = 1 then
      (ldA S 63 ((8 * v1) + v6)).bind fun x18 =>
        (if v3 = 0 then
        some x18
        else
        if v4 ≤ x18 then
          some v4
          else
          some x18).bind fun x21 =>
        (if v3 = 0 then
        some x18
        else
        if x18 ≤ v5 then
          some v5
          else
          some x18).bind fun x25 =>
        some ((v3 + 1), x21, x25)
      else
      some (v3, v4, v5)).bind fun (x13, x14, x15) =>
      X11_apart_L43 S v1 v2 n x13 x14 x15 (v6 + 1)
def X11_apart (S : St) (a1 : Int32) : Option (Int32 × St) :=
  (X11_in S ((a1 : Int32).toInt64) 0 40).bind fun x2 =>
  if x2 = 0 then
  some ((-1), S)
  else
  (X11_singers S ).bind fun x5 =>
    if x5 = 0 then
    some ((-4), S)
    else
    (X11_laysBeats S a1 0).bind fun S8 =>
      (X11_apart_L43 S8 a1 x5 FU 0 0 0 0).bind fun (x30, x31) =>
      some ((x31 - x30), S8)

def X11_count_L5 (S : St) (v1 : Int32) : Nat → Int32 → Int32 → Option (Int32)
  | 0, _, _ => none
  | n + 1, v2, v3 =>
    if 128 ≤ v3 then
    some v2
    else
    (ldA S 61 v3).bind fun x2 =>
      (if x2 ≤ 0 then
      some (0 : Int32)
      else
      some (1 : Int32)).bind fun x5 =>
      X11_count_L5 S v1 n (v2 + x5) (v3 + 1)
def X11_count_L40 (S : St) (v1 : Int32) (v2 : Int32) : Nat → Int32 → Int32 → Option (Int32)
  | 0, _, _ => none
  | n + 1, v3, v4 =>
    (ldA S 61 130).bind fun x10 =>
    if x10 ≤ v4 then
    some v3
    else
    (ldA S 61 (136 + v4)).bind fun x13 =>
      (if x13 < 10 then
      some (0 : Int32)
      else
      some (1 : Int32)).bind fun x16 =>
      X11_count_L40 S v1 v2 n (v3 + x16) (v4 + 1)
def X11_count (S : St) (a1 : Int32) : Option (Int32) :=
  (X11_count_L5 S a1 FU 0 64).bind fun x8 =>
  (X11_count_L40 S a1 x8 FU 0 0).bind fun x19 =>
  if a1 = 0 then
  (X11_rooms S ).bind fun x23 =>
    some x23
  else if a1 = 1 then
  (X11_singers S ).bind fun x26 =>
    (X11_size S x26).bind fun x28 =>
    some x28
  else if a1 = 2 then
  some x8
  else if a1 = 3 then
  (ldA S 61 130).bind fun x31 =>
    some x31
  else if a1 = 4 then
  some x19
  else if a1 = 5 then
  (ldA S 61 132).bind fun x35 =>
    some x35
  else 
  some (-1)

def X11_hold_L42 (S : St) (v1 : Int32) (v2 : Int32) : Nat → Int32 → Int32 → Int32 → Int32 → Option ((Int32 × Int32 × Int32) ⊕ (Int32))
  | 0, _, _, _, _ => none
  | n + 1, v3, v4, v5, v6 =>
    (X11_rooms S ).bind fun x11 =>
    if x11 ≤ v6 then
    some (.inl (v3, v4, v5))
    else
    if v6 = v1 then
      X11_hold_L42 S v1 v2 n v3 v4 v5 (v6 + 1)
      else
      (X11_sings S v6).bind fun x15 =>
        if x15 = 0 then
        X11_hold_L42 S v1 v2 n v3 v4 v5 (v6 + 1)
        else
        (X11_wireOf S v6 v1).bind fun x18 =>
          if x18 = 0 then
          some (.inr (-4))
          else
          (if x18 ≤ v3 then
            some v3
            else
            some x18).bind fun x21 =>
            X11_hold_L42 S v1 v2 n x21 (v4 + x18) (v5 + 1) (v6 + 1)
def X11_hold (S : St) (a1 : Int32) (a2 : Int32) : Option (Int32) :=
  (X11_isRoom S a1).bind fun x2 =>
  if x2 = 0 then
  some (-1)
  else
  (X11_in S ((a2 : Int32).toInt64) 0 1).bind fun x5 =>
    if x5 = 0 then
    some (-1)
    else
    (X11_isCut S a1).bind fun x8 =>
      if x8 = 0 then
      (X11_hold_L42 S a1 a2 FU 0 0 0 0).bind fun t => match t with
        | .inr x30 => some x30
        | .inl (x24, x25, x26) =>
        if a2 = 0 then
        some x24
        else
        some ((x26 * x24) - x25)
      else
      some (-4)

def X11_bars_L52 (S : St) (v1 : Int32) (v2 : Int32) (v3 : Int32) (v4 : Int32) : Nat → Int32 → Int32 → Int32 → Option (Int32 × Int32)
  | 0, _, _, _ => none
  | n + 1, v5, v6, v7 =>
    (X11_rooms S ).bind fun x13 =>
    if x13 ≤ v7 then
    some (v5, v6)
    else
    (if ((v2 >>> (v7 &&& 31)) &&& 1) = 1 then
      some (1 : Int32)
      else
      some (0 : Int32)).bind fun x16 =>
      (if v5 = 0 then
      some (0 : Int32)
      else
      if x16 = 0 then
        some (1 : Int32)
        else
        (X11_wireOf S v7 v4).bind fun x34 =>
          if x34 ≤ 0 then
          some (0 : Int32)
          else
          some (1 : Int32)).bind fun x20 =>
      (if x16 = 0 then
      some v6
      else
      (X11_wireOf S v7 v4).bind fun x28 =>
        if v6 ≤ x28 then
        some v6
        else
        (X11_wireOf S v7 v4).bind fun x31 =>
          some x31).bind fun x24 =>
      X11_bars_L52 S v1 v2 v3 v4 n x20 x24 (v7 + 1)
def X11_bars_L153 (v1 : Int32) (v2 : Int32) (v3 : Int32) (v4 : Int32) (v6 : Int32) : Nat → Int32 → Int32 → Int32 → St → Option (Int32 × St)
  | 0, _, _, _, _ => none
  | n + 1, v5, v7, v8, S =>
    (X11_rooms S ).bind fun x40 =>
    if x40 ≤ v8 then
    some (v5, S)
    else
    if v5 = 0 then
      some (v5, S)
      else
      (if ((v2 >>> (v8 &&& 31)) &&& 1) = 1 then
        (if v3 = 0 then
          (X11_wireOf S v8 v4).bind fun x70 =>
            some (x70 - v6)
          else
          (ldA S 64 v8).bind fun x67 =>
            some x67).bind fun x50 =>
          (stA S 64 v8 x50).bind fun S53 =>
          (X11_wireOf S53 v8 v4).bind fun x56 =>
          (ldA S53 64 v8).bind fun x57 =>
          (if v7 = 5000 then
          some (x56 - x57)
          else
          some v7).bind fun x60 =>
          (if (x56 - x57) = x60 then
          some (1 : Int32)
          else
          some (0 : Int32)).bind fun x64 =>
          some (x64, x60, S53)
        else
        some (v5, v7, S)).bind fun (x44, x45, S46) =>
        X11_bars_L153 v1 v2 v3 v4 v6 n x44 x45 (v8 + 1) S46
def X11_bars_L5 (v1 : Int32) (v2 : Int32) : Nat → Int32 → Int32 → St → Option ((St) ⊕ (Int32 × St))
  | 0, _, _, _ => none
  | n + 1, v3, v4, S =>
    (X11_rooms S ).bind fun x2 =>
    if x2 ≤ v4 then
    some (.inl S)
    else
    if v2 = 0 then
      some (.inl S)
      else
      if ((v1 >>> (v4 &&& 31)) &&& 1) = 1 then
        (X11_isCut S v4).bind fun x7 =>
          (if x7 = 0 then
          some (1 : Int32)
          else
          some (0 : Int32)).bind fun x9 =>
          (X11_bars_L52 S v1 v2 v3 v4 FU x9 1000 0).bind fun (x36, x37) =>
          (X11_bars_L153 v1 v2 v3 v4 x37 FU x36 5000 0 S).bind fun (x71, S72) =>
          if x71 = 0 then
          some (.inr (v4, S72))
          else
          X11_bars_L5 v1 v2 n (v3 + 1) (v4 + 1) S72
        else
        X11_bars_L5 v1 v2 n v3 (v4 + 1) S
def X11_bars (S : St) (a1 : Int32) (a2 : Int32) : Option (Int32 × St) :=
  (X11_bars_L5 a1 a2 FU 0 0 S).bind fun t => match t with
  | .inr (x80, S81) => some (x80, S81)
  | .inl S77 =>
  some ((-4), S77)

def X11_together (S : St) (a1 : Int32) (a2 : Int32) : Option (Int32 × St) :=
  (X11_rooms S ).bind fun x2 =>
  (X11_in S ((a1 : Int32).toInt64) 1 ((((1 <<< (x2 &&& 31)) - 1) : Int32).toInt64)).bind fun x4 =>
  if x4 = 0 then
  some ((-1), S)
  else
  (X11_in S ((a2 : Int32).toInt64) 0 8).bind fun x7 =>
    if x7 = 0 then
    some ((-1), S)
    else
    if 8 ≤ a2 then
      (X11_singers S ).bind fun x11 =>
        if 8 ≤ a2 then
        (X11_bars S a1 (x11 &&& (a1 ^^^ (-1)))).bind fun (x14, S15) =>
          if a2 = 8 then
          some (x14, S15)
          else
          if 0 ≤ x14 then
            some ((-4), S15)
            else
            (ldA S15 64 a2).bind fun x18 =>
              some (x18, S15)
        else
        if (((x11 &&& (a1 ^^^ (-1))) >>> (a2 &&& 31)) &&& 1) = 0 then
          some ((-2), S)
          else
          (X11_bars S a1 (x11 &&& (a1 ^^^ (-1)))).bind fun (x22, S23) =>
            if a2 = 8 then
            some (x22, S23)
            else
            if 0 ≤ x22 then
              some ((-4), S23)
              else
              (ldA S23 64 a2).bind fun x26 =>
                some (x26, S23)
      else
      (X11_isRoom S a2).bind fun x29 =>
        if x29 = 0 then
        some ((-1), S)
        else
        (X11_singers S ).bind fun x32 =>
          if 8 ≤ a2 then
          (X11_bars S a1 (x32 &&& (a1 ^^^ (-1)))).bind fun (x35, S36) =>
            if a2 = 8 then
            some (x35, S36)
            else
            if 0 ≤ x35 then
              some ((-4), S36)
              else
              (ldA S36 64 a2).bind fun x39 =>
                some (x39, S36)
          else
          if (((x32 &&& (a1 ^^^ (-1))) >>> (a2 &&& 31)) &&& 1) = 0 then
            some ((-2), S)
            else
            (X11_bars S a1 (x32 &&& (a1 ^^^ (-1)))).bind fun (x43, S44) =>
              if a2 = 8 then
              some (x43, S44)
              else
              if 0 ≤ x43 then
                some ((-4), S44)
                else
                (ldA S44 64 a2).bind fun x47 =>
                  some (x47, S44)

def X11_type_L17 (S : St) (v1 : Int64) (v3 : Int32) : Nat → Int32 → Option ((Unit) ⊕ (Int32 × St))
  | 0, _ => none
  | n + 1, v4 =>
    if v3 ≤ v4 then
    some (.inl ())
    else
    (X11_in S ((v1 >>> (((8 * v4) : Int32).toInt64 &&& 63)) &&& 255) 32 126).bind fun x6 =>
      if x6 = 0 then
      some (.inr ((-1), S))
      else
      X11_type_L17 S v1 v3 n (v4 + 1)
def X11_type_L73 (v1 : Int64) : Nat → Int32 → St → Option (St)
  | 0, _, _ => none
  | n + 1, v4, S =>
    if v4 < 0 then
    some S
    else
    (stA S 65 (rI S 60 5) ((((v1 >>> (((8 * v4) : Int32).toInt64 &&& 63)) &&& 255) : Int64).toInt32)).bind fun S11 =>
      (stF S11 60 5 ((rI S11 60 5) + 1)).bind fun S13 =>
      X11_type_L73 v1 n (v4 + (-1)) S13
def X11_type (S : St) (a1 : Int64) (a3 : Int32) : Option (Int32 × St) :=
  (X11_in S ((a3 : Int32).toInt64) 1 8).bind fun x2 =>
  if x2 = 0 then
  some ((-1), S)
  else
  (X11_type_L17 S a1 a3 FU 0).bind fun t => match t with
    | .inr (x19, S20) => some (x19, S20)
    | .inl _ =>
    if ((rI S 60 5) + a3) ≤ 120 then
    (X11_type_L73 a1 FU (a3 - 1) S).bind fun S15 =>
      some ((rI S15 60 5), S15)
    else
    some ((-3), S)

def X11_next_L0 : Nat → St → Option (St)
  | 0, _ => none
  | n + 1, S =>
    if (rI S 60 5) ≤ (rI S 60 6) then
    some S
    else
    (ldA S 65 (rI S 60 6)).bind fun x2 =>
      if x2 = 32 then
      (stF S 60 6 ((rI S 60 6) + 1)).bind fun S5 =>
        X11_next_L0  n S5
      else
      some S
def X11_next (S : St) : Option (Int32 × St) :=
  (X11_next_L0  FU  S).bind fun S7 =>
  if (rI S7 60 5) ≤ (rI S7 60 6) then
  some (0, S7)
  else
  (ldA S7 65 (rI S7 60 6)).bind fun x10 =>
    some (x10, S7)

def X11_reads_L123 (v1 : Int32) (v5 : Int32) (v6 : Int32) : Nat → Int32 → St → Option (St)
  | 0, _, _ => none
  | n + 1, v7, S =>
    if v6 ≤ v7 then
    some S
    else
    (stA S 66 (v1 + v7) v5).bind fun S26 =>
      X11_reads_L123 v1 v5 v6 n (v7 + 1) S26
def X11_reads (S : St) (a1 : Int32) (a2 : Int32) : Option (Int32 × St) :=
  (X11_next S ).bind fun (x2, S3) =>
  (X11_in S3 ((x2 : Int32).toInt64) 97 103).bind fun x5 =>
  (if x5 = 0 then
  some (0 : Int32)
  else
  some (x2 - 96)).bind fun x7 =>
  if x7 = 0 then
  if x2 = 45 then
    if a2 = 40 then
      some ((-1), S3)
      else
      (stF S3 60 6 ((rI S3 60 6) + 1)).bind fun S53 =>
        (X11_next S53 ).bind fun (x56, S57) =>
        (X11_in S57 ((x56 : Int32).toInt64) 49 57).bind fun x59 =>
        (if x59 = 0 then
        some ((1 : Int32), S57)
        else
        (X11_next S57 ).bind fun (x85, S86) =>
          (stF S86 60 6 ((rI S86 60 6) + 1)).bind fun S87 =>
          some ((x85 - 48), S87)).bind fun (x61, S62) =>
        if (a1 + x61) ≤ 64 then
        (X11_reads_L123 a1 x7 x61 FU 0 S62).bind fun S66 =>
          (X11_next S66 ).bind fun (x69, S70) =>
          (if x69 = 46 then
          (ldA S70 66 ((a1 + x61) - 1)).bind fun x75 =>
            (stA S70 66 ((a1 + x61) - 1) (x75 + 10)).bind fun S77 =>
            (stF S77 60 6 ((rI S77 60 6) + 1)).bind fun S79 =>
            some S79
          else
          some S70).bind fun S72 =>
          some ((a1 + x61), S72)
        else
        (stF S62 60 6 (rI S3 60 6)).bind fun S82 =>
          some ((-1), S82)
    else
    some ((-1), S3)
  else
  if a2 = 40 then
    some ((-1), S3)
    else
    (stF S3 60 6 ((rI S3 60 6) + 1)).bind fun S12 =>
      (X11_next S12 ).bind fun (x15, S16) =>
      (X11_in S16 ((x15 : Int32).toInt64) 49 57).bind fun x18 =>
      (if x18 = 0 then
      some ((1 : Int32), S16)
      else
      (X11_next S16 ).bind fun (x47, S48) =>
        (stF S48 60 6 ((rI S48 60 6) + 1)).bind fun S49 =>
        some ((x47 - 48), S49)).bind fun (x20, S21) =>
      if (a1 + x20) ≤ 64 then
      (X11_reads_L123 a1 x7 x20 FU 0 S21).bind fun S28 =>
        (X11_next S28 ).bind fun (x31, S32) =>
        (if x31 = 46 then
        (ldA S32 66 ((a1 + x20) - 1)).bind fun x37 =>
          (stA S32 66 ((a1 + x20) - 1) (x37 + 10)).bind fun S39 =>
          (stF S39 60 6 ((rI S39 60 6) + 1)).bind fun S41 =>
          some S41
        else
        some S32).bind fun S34 =>
        some ((a1 + x20), S34)
      else
      (stF S21 60 6 (rI S3 60 6)).bind fun S44 =>
        some ((-1), S44)

def X11_piece_L11 : Nat → Int32 → Int32 → Int32 → St → Option (Int32 × St)
  | 0, _, _, _, _ => none
  | n + 1, v1, v2, v3, S =>
    if v3 = 0 then
    some (v1, S)
    else
    (X11_reads S v1 v2).bind fun (x5, S6) =>
      (if x5 < 0 then
      some ((0 : Int32), S6)
      else
      (X11_next S6 ).bind fun (x13, S14) =>
        if x13 = 0 then
        some ((0 : Int32), S14)
        else
        some ((1 : Int32), S14)).bind fun (x8, S9) =>
      X11_piece_L11  n x5 (v2 + 1) x8 S9
def X11_piece_L65 (v1 : Int32) : Nat → Int32 → St → Option (St)
  | 0, _, _ => none
  | n + 1, v4, S =>
    if v1 ≤ v4 then
    some S
    else
    (ldA S 66 v4).bind fun x23 =>
      (stA S 61 (136 + v4) x23).bind fun S25 =>
      X11_piece_L65 v1 n (v4 + 1) S25
def X11_piece (S : St) : Option (Int32 × St) :=
  (stF S 60 6 0).bind fun S1 =>
  (X11_piece_L11  FU 0 0 1 S1).bind fun (x16, S17) =>
  (stF S17 60 5 0).bind fun S19 =>
  if 0 ≤ x16 then
  (X11_piece_L65 x16 FU 0 S19).bind fun S27 =>
    (stA S27 61 130 x16).bind fun S29 =>
    some (x16, S29)
  else
  some (((-20) - (rI S19 60 6)), S19)

def X11_sound (S : St) (a1 : Int32) : Option (Int32) :=
  (ldA S 61 130).bind fun x1 =>
  (X11_in S ((a1 : Int32).toInt64) 0 (((x1 - 1) : Int32).toInt64)).bind fun x4 =>
  if x4 = 0 then
  some (-1)
  else
  (ldA S 61 (136 + a1)).bind fun x6 =>
    some x6

def X11_fit (S : St) (a1 : Int32) : Option (Int32 × St) :=
  (X11_in S ((a1 : Int32).toInt64) 0 127).bind fun x2 =>
  if x2 = 0 then
  some ((-1), S)
  else
  (ldA S 61 129).bind fun x4 =>
    (stA S 61 129 a1).bind fun S6 =>
    some (x4, S6)

def X11_clashesAt_L4 (S : St) (v1 : Int32) : Nat → Int32 → Int32 → Option (Int32)
  | 0, _, _ => none
  | n + 1, v2, v3 =>
    (ldA S 61 130).bind fun x1 =>
    if x1 ≤ v3 then
    some v2
    else
    (ldA S 61 (136 + v3)).bind fun x4 =>
      (rmO x4 10).bind fun x6 =>
      (ldA S 61 ((136 + v3) - v1)).bind fun x8 =>
      (rmO x8 10).bind fun x10 =>
      (if x6 ≤ x10 then
      some (x10 - x6)
      else
      some (x6 - x10)).bind fun x13 =>
      (if x6 ≤ 0 then
      some (0 : Int32)
      else
      if x10 ≤ 0 then
        some (0 : Int32)
        else
        (ldA S 61 129).bind fun x21 =>
          if ((x21 >>> (x13 &&& 31)) &&& 1) = 0 then
          some (1 : Int32)
          else
          some (0 : Int32)).bind fun x17 =>
      X11_clashesAt_L4 S v1 n (v2 + x17) (v3 + 1)
def X11_clashesAt (S : St) (a1 : Int32) : Option (Int32) :=
  (X11_clashesAt_L4 S a1 FU 0 a1).bind fun x24 =>
  some x24

def X11_clashes (S : St) (a1 : Int32) : Option (Int32) :=
  (ldA S 61 130).bind fun x1 =>
  (X11_in S ((a1 : Int32).toInt64) 1 (((x1 - 1) : Int32).toInt64)).bind fun x4 =>
  if x4 = 0 then
  some (-1)
  else
  (X11_clashesAt S a1).bind fun x7 =>
    some x7

def X11_canon_L10 (S : St) : Nat → Int32 → Int32 → Option ((Unit) ⊕ (Int32))
  | 0, _, _ => none
  | n + 1, v2, v3 =>
    (ldA S 61 130).bind fun x2 =>
    if x2 ≤ v3 then
    some (.inl ())
    else
    (X11_clashesAt S v3).bind fun x6 =>
      (if x6 = 0 then
      some (1 : Int32)
      else
      some (0 : Int32)).bind fun x8 =>
      if x8 = 0 then
      (if x8 = 0 then
        some (0 : Int32)
        else
        some (1 : Int32)).bind fun x13 =>
        X11_canon_L10 S  n (v2 - x13) (v3 + 1)
      else
      if v2 = 0 then
        some (.inr v3)
        else
        (if x8 = 0 then
          some (0 : Int32)
          else
          some (1 : Int32)).bind fun x18 =>
          X11_canon_L10 S  n (v2 - x18) (v3 + 1)
def X11_canon (S : St) (a1 : Int32) : Option (Int32) :=
  if 0 ≤ a1 then
  (X11_canon_L10 S  FU a1 1).bind fun t => match t with
    | .inr x23 => some x23
    | .inl _ =>
    some (-4)
  else
  some (-1)

def X11_sea (S : St) (a1 : Int32) (a2 : Int32) : Option (Int32) :=
  (X11_in S ((a1 : Int32).toInt64) 1 63).bind fun x2 =>
  if x2 = 0 then
  some (-1)
  else
  (X11_in S ((a2 : Int32).toInt64) 1 40000).bind fun x5 =>
    if x5 = 0 then
    some (-1)
    else
    (rmO a2 a1).bind fun x7 =>
      if x7 = 0 then
      (dvO a2 a1).bind fun x10 =>
        if x10 ≤ 2000 then
        (dvO a2 a1).bind fun x13 =>
          some x13
        else
        some (-4)
      else
      some (-4)

def X11_lose (S : St) (a1 : Int32) (a2 : Int32) (a3 : Int32) (a4 : Int32) : Option (Int32 × St) :=
  (X11_in S ((a1 : Int32).toInt64) 1 7).bind fun x2 =>
  if x2 = 0 then
  some ((-1), S)
  else
  (X11_isRoom S a2).bind fun x5 =>
    if x5 = 0 then
    some ((-1), S)
    else
    (X11_isRoom S a3).bind fun x8 =>
      if x8 = 0 then
      some ((-1), S)
      else
      if a2 = a3 then
        some ((-1), S)
        else
        (ldA S 61 (((200 + (64 * (a1 - 1))) + (8 * a2)) + a3)).bind fun x11 =>
          (if a4 = 0 then
          some (0 : Int32)
          else
          some (1 : Int32)).bind fun x14 =>
          (stA S 61 (((200 + (64 * (a1 - 1))) + (8 * a2)) + a3) x14).bind fun S17 =>
          some (x11, S17)

def X11_tells_L2 (v1 : Int32) : Nat → Int32 → St → Option (St)
  | 0, _, _ => none
  | n + 1, v2, S =>
    (X11_rooms S ).bind fun x2 =>
    if x2 ≤ v2 then
    some S
    else
    (stA S 67 v2 (1 <<< (v2 &&& 31))).bind fun S4 =>
      X11_tells_L2 v1 n (v2 + 1) S4
def X11_tells_L57 (v1 : Int32) (v2 : Int32) (v3 : Int32) : Nat → Int32 → St → Option (St)
  | 0, _, _ => none
  | n + 1, v4, S =>
    (X11_rooms S ).bind fun x17 =>
    if x17 ≤ v4 then
    some S
    else
    (if v4 = v3 then
      some (0 : Int32)
      else
      (X11_isCut S v4).bind fun x34 =>
        if x34 = 0 then
        (X11_isCut S v3).bind fun x37 =>
          if x37 = 0 then
          (X11_wireOf S v4 v3).bind fun x40 =>
            if x40 ≤ 0 then
            some (0 : Int32)
            else
            (ldA S 61 (((200 + (64 * (v2 - 1))) + (8 * v4)) + v3)).bind fun x42 =>
              if x42 = 0 then
              some (1 : Int32)
              else
              some (0 : Int32)
          else
          some (0 : Int32)
        else
        some (0 : Int32)).bind fun x20 =>
      (ldA S 68 v3).bind fun x23 =>
      (if x20 = 0 then
      some (0 : Int32)
      else
      (ldA S 67 v4).bind fun x31 =>
        some x31).bind fun x26 =>
      (stA S 68 v3 (x23 ||| x26)).bind fun S29 =>
      X11_tells_L57 v1 v2 v3 n (v4 + 1) S29
def X11_tells_L34 (v1 : Int32) (v2 : Int32) : Nat → Int32 → St → Option (St)
  | 0, _, _ => none
  | n + 1, v3, S =>
    (X11_rooms S ).bind fun x10 =>
    if x10 ≤ v3 then
    some S
    else
    (ldA S 67 v3).bind fun x12 =>
      (stA S 68 v3 x12).bind fun S14 =>
      (X11_tells_L57 v1 v2 v3 FU 0 S14).bind fun S45 =>
      X11_tells_L34 v1 v2 n (v3 + 1) S45
def X11_tells_L171 (v1 : Int32) (v2 : Int32) : Nat → Int32 → St → Option (St)
  | 0, _, _ => none
  | n + 1, v3, S =>
    (X11_rooms S ).bind fun x51 =>
    if x51 ≤ v3 then
    some S
    else
    (ldA S 68 v3).bind fun x53 =>
      (stA S 67 v3 x53).bind fun S55 =>
      X11_tells_L171 v1 v2 n (v3 + 1) S55
def X11_tells_L27 (v1 : Int32) : Nat → Int32 → St → Option (St)
  | 0, _, _ => none
  | n + 1, v2, S =>
    if v1 < v2 then
    some S
    else
    (X11_tells_L34 v1 v2 FU 0 S).bind fun S48 =>
      (X11_tells_L171 v1 v2 FU 0 S48).bind fun S57 =>
      X11_tells_L27 v1 n (v2 + 1) S57
def X11_tells (S : St) (a1 : Int32) : Option (St) :=
  (X11_tells_L2 a1 FU 0 S).bind fun S6 =>
  (X11_tells_L27 a1 FU 1 S6).bind fun S61 =>
  some S61

def X11_knows (S : St) (a1 : Int32) (a2 : Int32) : Option (Int32 × St) :=
  (X11_isRoom S a1).bind fun x2 =>
  if x2 = 0 then
  some ((-1), S)
  else
  (X11_in S ((a2 : Int32).toInt64) 0 7).bind fun x5 =>
    if x5 = 0 then
    some ((-1), S)
    else
    (X11_tells S a2).bind fun S8 =>
      (ldA S8 67 a1).bind fun x9 =>
      some (x9, S8)

def X11_goes_L36 (S : St) (v1 : Int32) : Nat → Int32 → Int32 → Int32 → Option (Int32 × Int32)
  | 0, _, _, _ => none
  | n + 1, v3, v4, v5 =>
    (X11_rooms S ).bind fun x10 =>
    if x10 ≤ v5 then
    some (v3, v4)
    else
    (X11_isCut S v5).bind fun x13 =>
      (if x13 = 0 then
      (X11_of S v5 5).bind fun x20 =>
        (if v3 ≤ x20 then
        some v3
        else
        (X11_of S v5 5).bind fun x26 =>
          some x26).bind fun x22 =>
        some (x22, (v4 ||| (1 <<< (v5 &&& 31))))
      else
      some (v3, v4)).bind fun (x15, x16) =>
      X11_goes_L36 S v1 n x15 x16 (v5 + 1)
def X11_goes_L123 (S : St) (v3 : Int32) : Nat → Int32 → Int32 → Option (Int32)
  | 0, _, _ => none
  | n + 1, v5, v6 =>
    (ldA S 61 130).bind fun x36 =>
    if x36 ≤ v6 then
    some v5
    else
    (ldA S 61 (136 + v6)).bind fun x39 =>
      (if x39 < 10 then
      some v5
      else
      if v3 < (v6 + 1) then
        some v5
        else
        some (v6 + 1)).bind fun x42 =>
      X11_goes_L123 S v3 n x42 (v6 + 1)
def X11_goes (S : St) (a1 : Int32) (a2 : Int32) : Option (Int32 × St) :=
  (X11_isRoom S a1).bind fun x2 =>
  if x2 = 0 then
  some ((-1), S)
  else
  (X11_in S ((a2 : Int32).toInt64) 0 7).bind fun x5 =>
    if x5 = 0 then
    some ((-1), S)
    else
    (X11_tells S a2).bind fun S8 =>
      (X11_goes_L36 S8 a1 FU 64 0 0).bind fun (x27, x28) =>
      (X11_isCut S8 a1).bind fun x31 =>
      if x31 = 0 then
      (ldA S8 67 a1).bind fun x33 =>
        if (x33 &&& x28) = x28 then
        (X11_goes_L123 S8 x27 FU 0 0).bind fun x46 =>
          some (x46, S8)
        else
        some ((-4), S8)
      else
      some ((-4), S8)

def X11_loss (S : St) (a1 : Int64) : Option (Int32 × St) :=
  (X11_in S a1 0 281474976710655).bind fun x2 =>
  if x2 = 0 then
  some ((-1), S)
  else
  (ldA S 61 132).bind fun x4 =>
    if x4 = 8 then
    some ((-3), S)
    else
    (ldA S 61 132).bind fun x7 =>
      (stL S 62 x7 a1).bind fun S9 =>
      (ldA S9 61 132).bind fun x11 =>
      (stA S9 61 132 (x11 + 1)).bind fun S13 =>
      (ldA S13 61 132).bind fun x15 =>
      some ((x15 - 1), S13)

def X11_lostBy_L22 (S : St) (v1 : Int32) (v2 : Int32) (v3 : Int32) (v4 : Int32) : Nat → Int32 → Int32 → Int32 → Option (Int32 × Int32)
  | 0, _, _, _ => none
  | n + 1, v5, v6, v7 =>
    if (v4 + v2) ≤ v7 then
    some (v5, v6)
    else
    if 24 ≤ v7 then
      some (v5, v6)
      else
      (ldL S 62 v1).bind fun x4 =>
        (if (lg_cmp ((x4 >>> ((v7 : Int32).toInt64 &&& 63)) &&& 1) 1) = 0 then
        some (1 : Int32)
        else
        some (0 : Int32)).bind fun x7 =>
        (if x7 = 0 then
        some (0 : Int32)
        else
        some ((1 <<< (v7 &&& 31)) : Int32)).bind fun x11 =>
        (if x7 = 0 then
        some (0 : Int32)
        else
        some (1 : Int32)).bind fun x15 =>
        X11_lostBy_L22 S v1 v2 v3 v4 n (v5 ||| x11) (v6 + x15) (v7 + 1)
def X11_lostBy_L5 (S : St) (v1 : Int32) (v2 : Int32) : Nat → Int32 → Int32 → Option (Int32)
  | 0, _, _ => none
  | n + 1, v3, v4 =>
    if 24 ≤ v4 then
    some v3
    else
    (X11_lostBy_L22 S v1 v2 v3 v4 FU 0 0 v4).bind fun (x18, x19) =>
      (ldL S 62 v1).bind fun x21 =>
      (dvO v4 v2).bind fun x23 =>
      (if (lg_cmp ((x21 >>> (((24 + x23) : Int32).toInt64 &&& 63)) &&& 1) 1) = 0 then
      some (1 : Int32)
      else
      some (0 : Int32)).bind fun x26 =>
      (if x19 = 1 then
      if x26 = 0 then
        some (0 : Int32)
        else
        some x18
      else
      some x18).bind fun x30 =>
      X11_lostBy_L5 S v1 v2 n (v3 ||| x30) (v4 + v2)
def X11_lostBy (S : St) (a1 : Int32) (a2 : Int32) : Option (Int32) :=
  (X11_lostBy_L5 S a1 a2 FU 0 0).bind fun x35 =>
  some x35

def X11_lost (S : St) (a1 : Int32) (a2 : Int32) : Option (Int32) :=
  (ldA S 61 132).bind fun x1 =>
  (X11_in S ((a1 : Int32).toInt64) 0 (((x1 - 1) : Int32).toInt64)).bind fun x4 =>
  if x4 = 0 then
  some (-1)
  else
  (X11_in S ((a2 : Int32).toInt64) 1 12).bind fun x7 =>
    if x7 = 0 then
    some (-1)
    else
    (X11_lostBy S a1 a2).bind fun x10 =>
      some x10

def X11_group_L11 (S : St) (v1 : Int32) : Nat → Int32 → Int32 → Option (Int32)
  | 0, _, _ => none
  | n + 1, v2, v3 =>
    (ldA S 61 132).bind fun x2 =>
    if x2 ≤ v3 then
    some v2
    else
    (if v2 = 0 then
      some (0 : Int32)
      else
      (X11_lostBy S v3 v1).bind fun x10 =>
        if x10 = 0 then
        some (1 : Int32)
        else
        some (0 : Int32)).bind fun x6 =>
      X11_group_L11 S v1 n x6 (v3 + 1)
def X11_group_L3 (S : St) : Nat → Int32 → Option ((Unit) ⊕ (Int32))
  | 0, _ => none
  | n + 1, v1 =>
    if v1 ≤ 0 then
    some (.inl ())
    else
    (X11_group_L11 S v1 FU 1 0).bind fun x12 =>
      if x12 = 0 then
      X11_group_L3 S  n (v1 + (-1))
      else
      some (.inr v1)
def X11_group (S : St) : Option (Int32) :=
  (X11_group_L3 S  FU 12).bind fun t => match t with
  | .inr x18 => some x18
  | .inl _ =>
  some (-4)

def X11_clear (S : St) : Option (Int32 × St) :=
  (ldA S 61 132).bind fun x1 =>
  (stA S 61 132 0).bind fun S3 =>
  some (x1, S3)

def X11_most (S : St) (a1 : Int32) : Option (Int32 × St) :=
  (X11_in S ((a1 : Int32).toInt64) 1 7).bind fun x2 =>
  if x2 = 0 then
  some ((-1), S)
  else
  (ldA S 61 131).bind fun x4 =>
    (stA S 61 131 a1).bind fun S6 =>
    some (x4, S6)

def X11_parts_L2 (v1 : Int32) : Nat → Int32 → St → Option (St)
  | 0, _, _ => none
  | n + 1, v2, S =>
    if v1 ≤ v2 then
    some S
    else
    (stA S 71 v2 1).bind fun S2 =>
      X11_parts_L2 v1 n (v2 + 1) S2
def X11_parts_L22 (v1 : Int32) : Nat → Int32 → St → Option (St)
  | 0, _, _ => none
  | n + 1, v2, S =>
    if (v1 - 2) ≤ v2 then
    some S
    else
    (ldA S 70 v2).bind fun x7 =>
      (ldA S 71 x7).bind fun x9 =>
      (stA S 71 x7 (x9 + 1)).bind fun S11 =>
      X11_parts_L22 v1 n (v2 + 1) S11
def X11_parts_L54 (S : St) (v1 : Int32) : Nat → Int32 → Int32 → Option (Int32)
  | 0, _, _ => none
  | n + 1, v2, v3 =>
    if v1 ≤ v3 then
    some v2
    else
    (if v2 = 0 then
      some (0 : Int32)
      else
      (ldA S 71 v3).bind fun x20 =>
        (ldA S 61 131).bind fun x22 =>
        if x22 < x20 then
        some (0 : Int32)
        else
        some (1 : Int32)).bind fun x17 =>
      X11_parts_L54 S v1 n x17 (v3 + 1)
def X11_parts_L108 (S : St) (v1 : Int32) (v2 : Int32) (v3 : Int32) (v4 : Int32) : Nat → Int32 → Option (Int32)
  | 0, _ => none
  | n + 1, v5 =>
    (ldA S 71 v5).bind fun x28 =>
    if x28 = 1 then
    some v5
    else
    X11_parts_L108 S v1 v2 v3 v4 n (v5 + 1)
def X11_parts_L97 (v1 : Int32) (v2 : Int32) : Nat → Int32 → Int32 → St → Option (Int32 × St)
  | 0, _, _, _ => none
  | n + 1, v3, v4, S =>
    if (v1 - 2) ≤ v4 then
    some (v3, S)
    else
    (X11_parts_L108 S v1 v2 v3 v4 FU 0).bind fun x31 =>
      (stA S 72 (2 * v3) x31).bind fun S33 =>
      (ldA S33 70 v4).bind fun x35 =>
      (stA S33 72 ((2 * v3) + 1) x35).bind fun S37 =>
      (stA S37 71 x31 0).bind fun S39 =>
      (ldA S39 70 v4).bind fun x41 =>
      (ldA S39 71 x41).bind fun x43 =>
      (stA S39 71 x41 (x43 - 1)).bind fun S45 =>
      X11_parts_L97 v1 v2 n (v3 + 1) (v4 + 1) S45
def X11_parts_L188 (S : St) (v2 : Int32) (v3 : Int32) : Nat → Int32 → Option (Int32)
  | 0, _ => none
  | n + 1, v4 =>
    (ldA S 71 v4).bind fun x51 =>
    if x51 = 1 then
    some v4
    else
    X11_parts_L188 S v2 v3 n (v4 + 1)
def X11_parts_L211 (S : St) (v2 : Int32) (v3 : Int32) (v4 : Int32) : Nat → Int32 → Option (Int32)
  | 0, _ => none
  | n + 1, v5 =>
    (ldA S 71 v5).bind fun x56 =>
    if x56 = 1 then
    some v5
    else
    X11_parts_L211 S v2 v3 v4 n (v5 + 1)
def X11_parts (S : St) (a1 : Int32) : Option (Int32 × St) :=
  (X11_parts_L2 a1 FU 0 S).bind fun S4 =>
  (X11_parts_L22 a1 FU 0 S4).bind fun S13 =>
  (X11_parts_L54 S13 a1 FU 1 0).bind fun x25 =>
  (X11_parts_L97 a1 x25 FU 0 0 S13).bind fun (x48, S49) =>
  (X11_parts_L188 S49 x25 x48 FU 0).bind fun x54 =>
  (X11_parts_L211 S49 x25 x48 x54 FU (x54 + 1)).bind fun x59 =>
  (stA S49 72 (2 * x48) x54).bind fun S61 =>
  (stA S61 72 ((2 * x48) + 1) x59).bind fun S63 =>
  some (x25, S63)

def X11_waitOf_L2 (v1 : Int32) : Nat → Int32 → St → Option (St)
  | 0, _, _ => none
  | n + 1, v2, S =>
    if 36 ≤ v2 then
    some S
    else
    (rmO v2 7).bind fun x2 =>
      (if x2 = 0 then
      some (0 : Int32)
      else
      some ((-1) : Int32)).bind fun x5 =>
      (stA S 73 v2 x5).bind fun S8 =>
      X11_waitOf_L2 v1 n (v2 + 1) S8
def X11_waitOf_L115 (v1 : Int32) (v2 : Int32) (v3 : Int32) (v4 : Int32) (v5 : Int32) (v6 : Int32) : Nat → Int32 → St → Option (St)
  | 0, _, _ => none
  | n + 1, v7, S =>
    if v1 ≤ v7 then
    some S
    else
    (if v7 = v3 then
      some S
      else
      (ldA S 73 ((6 * v4) + v7)).bind fun x36 =>
        if x36 < 0 then
        some S
        else
        (ldA S 73 ((6 * v4) + v7)).bind fun x39 =>
          (stA S 73 ((6 * v3) + v7) (v5 + x39)).bind fun S41 =>
          (ldA S41 73 ((6 * v7) + v4)).bind fun x43 =>
          (stA S41 73 ((6 * v7) + v3) (x43 + v6)).bind fun S45 =>
          some S45).bind fun S33 =>
      X11_waitOf_L115 v1 v2 v3 v4 v5 v6 n (v7 + 1) S33
def X11_waitOf_L36 (v1 : Int32) : Nat → Int32 → St → Option ((St) ⊕ (Int32 × St))
  | 0, _, _ => none
  | n + 1, v2, S =>
    if v2 < 0 then
    some (.inl S)
    else
    (ldA S 72 (2 * v2)).bind fun x13 =>
      (ldA S 72 ((2 * v2) + 1)).bind fun x15 =>
      (ldA S 69 x13).bind fun x17 =>
      (ldA S 69 x15).bind fun x19 =>
      (X11_wireOf S x17 x19).bind fun x22 =>
      (ldA S 69 x15).bind fun x23 =>
      (ldA S 69 x13).bind fun x25 =>
      (X11_wireOf S x23 x25).bind fun x28 =>
      if x22 = 0 then
      some (.inr ((-4), S))
      else
      if x28 = 0 then
        some (.inr ((-4), S))
        else
        (X11_waitOf_L115 v1 v2 x13 x15 x22 x28 FU 0 S).bind fun S47 =>
          X11_waitOf_L36 v1 n (v2 + (-1)) S47
def X11_waitOf_L223 (S : St) (v1 : Int32) (v3 : Int32) : Nat → Int32 → Int32 → Option (Int32)
  | 0, _, _ => none
  | n + 1, v2, v4 =>
    if v1 ≤ v4 then
    some v2
    else
    (ldA S 73 ((6 * v3) + v4)).bind fun x54 =>
      (if x54 ≤ v2 then
      some v2
      else
      (ldA S 73 ((6 * v3) + v4)).bind fun x60 =>
        some x60).bind fun x57 =>
      X11_waitOf_L223 S v1 v3 n x57 (v4 + 1)
def X11_waitOf_L215 (S : St) (v1 : Int32) : Nat → Int32 → Int32 → Option (Int32)
  | 0, _, _ => none
  | n + 1, v2, v3 =>
    if v1 ≤ v3 then
    some v2
    else
    (X11_waitOf_L223 S v1 v3 FU v2 0).bind fun x62 =>
      X11_waitOf_L215 S v1 n x62 (v3 + 1)
def X11_waitOf (S : St) (a1 : Int32) : Option (Int32 × St) :=
  (X11_waitOf_L2 a1 FU 0 S).bind fun S10 =>
  (X11_waitOf_L36 a1 FU (a1 - 2) S10).bind fun t => match t with
  | .inr (x69, S70) => some (x69, S70)
  | .inl S50 =>
  (X11_waitOf_L215 S50 a1 FU 0 0).bind fun x65 =>
  some (x65, S50)

def X11_net_L6 (S : St) (v1 : Int32) : Nat → Int32 → Int32 → Option (Int32)
  | 0, _, _ => none
  | n + 1, v2, v3 =>
    (X11_rooms S ).bind fun x2 =>
    if x2 ≤ v3 then
    some v2
    else
    (X11_isCut S v3).bind fun x5 =>
      (if x5 = 0 then
      some (0 : Int32)
      else
      some (1 : Int32)).bind fun x7 =>
      X11_net_L6 S v1 n (v2 + x7) (v3 + 1)
def X11_net_L60 : Nat → Int32 → Int32 → St → Option (Int32 × St)
  | 0, _, _, _ => none
  | n + 1, v1, v3, S =>
    (X11_rooms S ).bind fun x18 =>
    if x18 ≤ v3 then
    some (v1, S)
    else
    (X11_isCut S v3).bind fun x21 =>
      (if x21 = 0 then
      (stA S 69 v1 v3).bind fun S27 =>
        some ((v1 + 1), S27)
      else
      some (v1, S)).bind fun (x23, S24) =>
      X11_net_L60  n x23 (v3 + 1) S24
def X11_net_L97 (S : St) (v1 : Int32) : Nat → Int32 → Int32 → Option (Int32)
  | 0, _, _ => none
  | n + 1, v3, v4 =>
    if (v1 - 2) ≤ v4 then
    some v3
    else
    X11_net_L97 S v1 n (v3 * v1) (v4 + 1)
def X11_net_L135 (v1 : Int32) (v3 : Int32) (v4 : Int32) (v5 : Int32) : Nat → Int32 → Int32 → St → Option (St)
  | 0, _, _, _ => none
  | n + 1, v6, v7, S =>
    if (v1 - 2) ≤ v7 then
    some S
    else
    (rmO v6 v1).bind fun x37 =>
      (stA S 70 v7 x37).bind fun S39 =>
      (dvO v6 v1).bind fun x41 =>
      X11_net_L135 v1 v3 v4 v5 n x41 (v7 + 1) S39
def X11_net_L122 (v1 : Int32) (v3 : Int32) : Nat → Int32 → Int32 → St → Option (Int32 × St)
  | 0, _, _, _ => none
  | n + 1, v4, v5, S =>
    if v3 ≤ v5 then
    some (v4, S)
    else
    (X11_net_L135 v1 v3 v4 v5 FU v5 0 S).bind fun S43 =>
      (X11_parts S43 v1).bind fun (x46, S47) =>
      (if x46 = 0 then
      some (((-4) : Int32), S47)
      else
      (X11_waitOf S47 v1).bind fun (x60, S61) =>
        some (x60, S61)).bind fun (x49, S50) =>
      (if x49 < 0 then
      some v4
      else
      if v4 < 0 then
        some x49
        else
        if v4 ≤ x49 then
          some v4
          else
          some x49).bind fun x54 =>
      X11_net_L122 v1 v3 n x54 (v5 + 1) S50
def X11_net (S : St) : Option (Int32 × St) :=
  (X11_net_L6 S 0 FU 0 0).bind fun x10 =>
  (X11_rooms S ).bind fun x13 =>
  (X11_in S (((x13 - x10) : Int32).toInt64) 2 6).bind fun x15 =>
  if x15 = 0 then
  some ((-2), S)
  else
  (X11_net_L60  FU 0 0 S).bind fun (x29, S30) =>
    (X11_net_L97 S30 x29 FU 1 0).bind fun x33 =>
    (X11_net_L122 x29 x33 FU (-4) 0 S30).bind fun (x63, S64) =>
    some (x63, S64)

def X11_image_L14 (v1 : Int32) : Nat → Int32 → St → Option (St)
  | 0, _, _ => none
  | n + 1, v2, S =>
    if 648 ≤ v2 then
    some S
    else
    (ldA S 61 v2).bind fun x5 =>
      (stA S 74 ((648 * v1) + v2) x5).bind fun S7 =>
      X11_image_L14 v1 n (v2 + 1) S7
def X11_image_L47 (v1 : Int32) : Nat → Int32 → St → Option (St)
  | 0, _, _ => none
  | n + 1, v2, S =>
    if 8 ≤ v2 then
    some S
    else
    (ldL S 62 v2).bind fun x12 =>
      (stL S 75 ((8 * v1) + v2) x12).bind fun S14 =>
      X11_image_L47 v1 n (v2 + 1) S14
def X11_image (S : St) (a1 : Int32) : Option (Int32 × St) :=
  (X11_in S ((a1 : Int32).toInt64) 0 1).bind fun x2 =>
  if x2 = 0 then
  some ((-1), S)
  else
  (X11_image_L14 a1 FU 0 S).bind fun S9 =>
    (X11_image_L47 a1 FU 0 S9).bind fun S16 =>
    (stZ S16 76 a1 1).bind fun S18 =>
    some (1, S18)

def X11_restore_L26 (v1 : Int32) : Nat → Int32 → St → Option (St)
  | 0, _, _ => none
  | n + 1, v2, S =>
    if 648 ≤ v2 then
    some S
    else
    (ldA S 74 ((648 * v1) + v2)).bind fun x8 =>
      (stA S 61 v2 x8).bind fun S10 =>
      X11_restore_L26 v1 n (v2 + 1) S10
def X11_restore_L59 (v1 : Int32) : Nat → Int32 → St → Option (St)
  | 0, _, _ => none
  | n + 1, v2, S =>
    if 8 ≤ v2 then
    some S
    else
    (ldL S 75 ((8 * v1) + v2)).bind fun x15 =>
      (stL S 62 v2 x15).bind fun S17 =>
      X11_restore_L59 v1 n (v2 + 1) S17
def X11_restore (S : St) (a1 : Int32) : Option (Int32 × St) :=
  (X11_in S ((a1 : Int32).toInt64) 0 1).bind fun x2 =>
  if x2 = 0 then
  some ((-1), S)
  else
  (ldZ S 76 a1).bind fun x4 =>
    if x4 = 0 then
    some ((-4), S)
    else
    (X11_restore_L26 a1 FU 0 S).bind fun S12 =>
      (X11_restore_L59 a1 FU 0 S12).bind fun S19 =>
      some (1, S19)

def X11_sheet_L46 (v1 : Int32) (v3 : Int32) : Nat → Int32 → St → Option (St)
  | 0, _, _ => none
  | n + 1, v4, S =>
    if 40 ≤ v4 then
    some S
    else
    (stA S 79 ((40 * v1) + v4) 0).bind fun S14 =>
      X11_sheet_L46 v1 v3 n (v4 + 1) S14
def X11_sheet (S : St) (a1 : Int32) (a2 : Int32) (a3 : Int32) : Option (Int32 × St) :=
  (X11_isSheet S a1).bind fun x2 =>
  if x2 = 0 then
  some ((-1), S)
  else
  (X11_isLane S a2).bind fun x5 =>
    if x5 = 0 then
    some ((-1), S)
    else
    if a3 ≤ 40 then
      if 0 ≤ a3 then
        (stA S 77 a1 a2).bind fun S9 =>
          (stA S9 78 a1 a3).bind fun S11 =>
          (X11_sheet_L46 a1 a3 FU 0 S11).bind fun S16 =>
          some (a3, S16)
        else
        some ((-14), S)
      else
      some ((-1), S)

def X11_drop (S : St) (a1 : Int32) : Option (Int32 × St) :=
  (X11_isSheet S a1).bind fun x2 =>
  if x2 = 0 then
  some ((-1), S)
  else
  (ldA S 77 a1).bind fun x4 =>
    if 0 ≤ x4 then
    (stA S 77 a1 (-1)).bind fun S7 =>
      (ldA S7 78 a1).bind fun x9 =>
      some (x9, S7)
    else
    some ((-11), S)

def X11_item (S : St) (a1 : Int32) (a2 : Int32) (a3 : Int32) (a4 : Int32) : Option (Int32 × St) :=
  (X11_isSheet S a1).bind fun x2 =>
  if x2 = 0 then
  some ((-1), S)
  else
  (X11_isLane S a2).bind fun x5 =>
    if x5 = 0 then
    some ((-1), S)
    else
    (X11_finds S a1 a2 a3 1).bind fun x8 =>
      if 0 ≤ x8 then
      (if a2 = 0 then
        some ((a4 : Int32).toInt8.toInt32)
        else
        if a2 = 1 then
          some ((a4 : Int32).toInt16.toInt32)
          else
          some a4).bind fun x11 =>
        (stA S 79 ((40 * a1) + a3) x11).bind fun S14 =>
        some (1, S14)
      else
      some (x8, S)

def X11_copy_L101 (v1 : Int32) (v2 : Int32) (v3 : Int32) (v4 : Int32) (v5 : Int32) : Nat → Int32 → St → Option (St)
  | 0, _, _ => none
  | n + 1, v6, S =>
    if v5 ≤ v6 then
    some S
    else
    (ldA S 79 (((40 * v1) + v2) + v6)).bind fun x30 =>
      (stA S 80 v6 x30).bind fun S32 =>
      X11_copy_L101 v1 v2 v3 v4 v5 n (v6 + 1) S32
def X11_copy_L138 (v3 : Int32) (v4 : Int32) (v5 : Int32) : Nat → Int32 → St → Option (St)
  | 0, _, _ => none
  | n + 1, v6, S =>
    if v5 ≤ v6 then
    some S
    else
    (ldA S 80 v6).bind fun x37 =>
      (stA S 79 (((40 * v3) + v4) + v6) x37).bind fun S39 =>
      X11_copy_L138 v3 v4 v5 n (v6 + 1) S39
def X11_copy (S : St) (a1 : Int32) (a2 : Int32) (a3 : Int32) (a4 : Int32) (a5 : Int32) : Option (Int32 × St) :=
  (X11_isSheet S a1).bind fun x2 =>
  if x2 = 0 then
  some ((-1), S)
  else
  (X11_isSheet S a3).bind fun x5 =>
    if x5 = 0 then
    some ((-1), S)
    else
    (ldA S 77 a1).bind fun x7 =>
      if x7 < 0 then
      some ((-11), S)
      else
      (ldA S 77 a3).bind fun x10 =>
        if 0 ≤ x10 then
        (ldA S 77 a1).bind fun x13 =>
          (ldA S 77 a3).bind fun x15 =>
          if x13 = x15 then
          if a5 < 0 then
            some ((-13), S)
            else
            (ldA S 77 a1).bind fun x19 =>
              (X11_finds S a1 x19 a2 a5).bind fun x22 =>
              if x22 < 0 then
              some ((-13), S)
              else
              (ldA S 77 a3).bind fun x24 =>
                (X11_finds S a3 x24 a4 a5).bind fun x27 =>
                if 0 ≤ x27 then
                (X11_copy_L101 a1 a2 a3 a4 a5 FU 0 S).bind fun S34 =>
                  (X11_copy_L138 a3 a4 a5 FU 0 S34).bind fun S41 =>
                  some (a5, S41)
                else
                some ((-13), S)
          else
          some ((-12), S)
        else
        some ((-11), S)
