def fX0_meet_27 (a2 : Nat) (na2 : Nat) (w8 : Int32) (K14 : FH → Option FH) : Nat → Int32 → FH → Option FH
  | 0, _, _ => none
  | n20 + 1, w17, σ18 =>
    if (σ18.1 5 1) ≤ w17 then (
      K14 σ18)
    else (
      fxG (fx_in w17 32 = true) <|
      fxG (fx_in w8 na2 = true) <|
      fxG (fx_in (w17 + (σ18.1 5 1)) 32 = true) <|
      fxL (fx_si σ18 6 (Int32.toNatClampNeg (w17 + (σ18.1 5 1))) ((σ18.1 6 (Int32.toNatClampNeg w17)) + (σ18.1 a2 (Int32.toNatClampNeg w8)))) <| fun (σ25 : FH) =>
      fX0_meet_27 a2 na2 w8 K14 n20 (w17 + 1) σ25)
def fX0_meet_14 (a1 : Int32) (a2 : Nat) (na2 : Nat) (K4 : FH → Option FH) : Nat → Int32 → FH → Option FH
  | 0, _, _ => none
  | n11 + 1, w8, σ9 =>
    if a1 ≤ w8 then (
      K4 σ9)
    else (
      if 5 ≤ w8 then (
        K4 σ9)
      else (
        fxL (fun (σ15 : FH) =>
            fxL (fx_si σ15 5 1 ((σ15.1 5 1) * 2)) <| fun (σ16 : FH) =>
            fX0_meet_14 a1 a2 na2 K4 n11 (w8 + 1) σ16) <| fun K14 =>
        fX0_meet_27 a2 na2 w8 K14 FU 0 σ9))
def fX0_meet (a1 : Int32) (a2 : Nat) (na2 : Nat) (σ : FH) : Option FH :=
  fxG (LX[a2]? = some (20, na2)) <|
  fxG (fx_in 0 32 = true) <|
  fxL (fx_si σ 6 (Int32.toNatClampNeg 0) 0) <| fun (σ2 : FH) =>
  fxL (fx_si σ2 5 1 1) <| fun (σ3 : FH) =>
  fxL (fun (σ5 : FH) =>
      fxG (fx_in ((σ5.1 5 1) - 1) 32 = true) <|
      fxL (fx_si σ5 5 2 (σ5.1 6 (Int32.toNatClampNeg ((σ5.1 5 1) - 1)))) <| fun (σ7 : FH) =>
      some σ7) <| fun K4 =>
  fX0_meet_14 a1 a2 na2 K4 FU 0 σ3

def fX0_setsOf_4 (a1 : Int32) (σ : FH) (K1 : Int32 → Option Int32) : Nat → Int32 → Int32 → Option Int32
  | 0, _, _ => none
  | n6 + 1, w3, w4 =>
    if (σ.1 5 1) ≤ w4 then (
      K1 w3)
    else (
      fxG (fx_in w4 32 = true) <|
      fxL (α := Int32) (if (σ.1 6 (Int32.toNatClampNeg w4)) = a1 then (w3 + 1) else w3) <| fun (v9 : Int32) =>
      fX0_setsOf_4 a1 σ K1 n6 v9 (w4 + 1))
def fX0_setsOf (a1 : Int32) (σ : FH) : Option Int32 :=
  fxL (fun (x2 : Int32) =>
      some x2) <| fun K1 =>
  fX0_setsOf_4 a1 σ K1 FU 0 0

def fX0_isMajority (a1 : Int32) (σ : FH) : Option Int32 :=
  if a1 < 0 then (
    some (0 : Int32))
  else (
    if 32 ≤ a1 then (
      some (0 : Int32))
    else (
      fxG (fx_in a1 32 = true) <|
      if (2 * (σ.1 6 (Int32.toNatClampNeg a1))) ≤ (σ.1 5 2) then (
        some (0 : Int32))
      else (
        some (1 : Int32))))

def fX0_turnsBy_9 (σ : FH) (v1 : Int32) (K2 : Int32 → Option Int32) : Nat → Int32 → Int32 → Option Int32
  | 0, _, _ => none
  | n7 + 1, w4, w5 =>
    if (σ.1 5 1) ≤ w5 then (
      K2 w4)
    else (
      if (w5 &&& v1) = 0 then (
        fxBP (fX0_isMajority w5 σ) <| fun (r11 : Int32) =>
        if r11 = 0 then (
          fxBP (fX0_isMajority (w5 ||| v1) σ) <| fun (r15 : Int32) =>
          if r15 = 0 then (
            fX0_turnsBy_9 σ v1 K2 n7 w4 (w5 + 1))
          else (
            fX0_turnsBy_9 σ v1 K2 n7 (w4 + 1) (w5 + 1)))
        else (
          fX0_turnsBy_9 σ v1 K2 n7 w4 (w5 + 1)))
      else (
        fX0_turnsBy_9 σ v1 K2 n7 w4 (w5 + 1)))
def fX0_turnsBy (a1 : Int32) (σ : FH) : Option Int32 :=
  fxL (α := Int32) (1 <<< (a1 &&& 31)) <| fun (v1 : Int32) =>
  fxL (fun (x3 : Int32) =>
      some x3) <| fun K2 =>
  fX0_turnsBy_9 σ v1 K2 FU 0 0

def fX0_inEveryMajority_26 (σ : FH) (K7 : Int32 → Option Int32) : Nat → Int32 → Int32 → Option Int32
  | 0, _, _ => none
  | n12 + 1, w9, w10 =>
    if (σ.1 5 1) ≤ w10 then (
      K7 w9)
    else (
      fxBP (fX0_isMajority w10 σ) <| fun (r15 : Int32) =>
      fxL (α := Int32) (if r15 = 0 then w9 else (w9 &&& w10)) <| fun (v17 : Int32) =>
      fX0_inEveryMajority_26 σ K7 n12 v17 (w10 + 1))
def fX0_inEveryMajority  (σ : FH) : Option Int32 :=
  fxBP (fX0_isMajority ((σ.1 5 1) - 1) σ) <| fun (r2 : Int32) =>
  fxL (α := Int32) (if r2 = 0 then 0 else ((σ.1 5 1) - 1)) <| fun (v4 : Int32) =>
  fxL (fun (x8 : Int32) =>
      some x8) <| fun K7 =>
  fX0_inEveryMajority_26 σ K7 FU v4 0

def fJ6_bitCount_0f7a4 (a0 : Int32) (σ : FH) : Option Int32 :=
  fxL (α := Int32) (a0 - (((Int32.toUInt32 a0 >>> (Int32.toUInt32 1 &&& Int32.toUInt32 31)).toInt32) &&& 1431655765)) <| fun (v1 : Int32) =>
  fxL (α := Int32) ((v1 &&& 858993459) + (((Int32.toUInt32 v1 >>> (Int32.toUInt32 2 &&& Int32.toUInt32 31)).toInt32) &&& 858993459)) <| fun (v2 : Int32) =>
  fxL (α := Int32) ((v2 + ((Int32.toUInt32 v2 >>> (Int32.toUInt32 4 &&& Int32.toUInt32 31)).toInt32)) &&& 252645135) <| fun (v3 : Int32) =>
  fxL (α := Int32) (v3 + ((Int32.toUInt32 v3 >>> (Int32.toUInt32 8 &&& Int32.toUInt32 31)).toInt32)) <| fun (v4 : Int32) =>
  fxL (α := Int32) (v4 + ((Int32.toUInt32 v4 >>> (Int32.toUInt32 16 &&& Int32.toUInt32 31)).toInt32)) <| fun (v5 : Int32) =>
  some (v5 &&& 63)

def fX0_leastMajority_4 (σ : FH) (K1 : Int32 → Option Int32) : Nat → Int32 → Int32 → Option Int32
  | 0, _, _ => none
  | n6 + 1, w3, w4 =>
    if (σ.1 5 1) ≤ w4 then (
      K1 w3)
    else (
      fxBP (fX0_isMajority w4 σ) <| fun (r9 : Int32) =>
      if r9 = 0 then (
        fX0_leastMajority_4 σ K1 n6 w3 (w4 + 1))
      else (
        if w3 = (-1) then (
          fX0_leastMajority_4 σ K1 n6 w4 (w4 + 1))
        else (
          fxBP (fJ6_bitCount_0f7a4 w4 σ) <| fun (r14 : Int32) =>
          fxBP (fJ6_bitCount_0f7a4 w3 σ) <| fun (r17 : Int32) =>
          if r17 ≤ r14 then (
            fX0_leastMajority_4 σ K1 n6 w3 (w4 + 1))
          else (
            fX0_leastMajority_4 σ K1 n6 w4 (w4 + 1)))))
def fX0_leastMajority  (σ : FH) : Option Int32 :=
  fxL (fun (x2 : Int32) =>
      some x2) <| fun K1 =>
  fX0_leastMajority_4 σ K1 FU (-1) 0

def fX1_put (t : Nat) (a1 : Int32) (σ : FH) : Option FH :=
  fxG (LX[t]? = some (1, 0)) <|
  if (σ.1 t 1) < 0 then (
    some σ)
  else (
    if 1000 ≤ (σ.1 t 1) then (
      some σ)
    else (
      fxG (fx_in (σ.1 t 1) 1000 = true) <|
      fxL (fx_si σ (t + 1) (Int32.toNatClampNeg (σ.1 t 1)) a1) <| fun (σ4 : FH) =>
      fxL (fx_si σ4 t 1 ((σ4.1 t 1) + 1)) <| fun (σ5 : FH) =>
      some σ5))

def fX1_truth (a0 : Int32) (σ : FH) : Option Int32 :=
  fxL (α := Int32) (if a0 = 0 then 0 else 1) <| fun (v1 : Int32) =>
  some v1

def fX1_combine (a0 : Int32) (a1 : Int32) (a2 : Int32) (σ : FH) : Option Int32 :=
  if a0 = (-11) then (
    some (a1 - a2)) else
  if a0 = (-10) then (
    some (a1 + a2)) else
  if a0 = (-9) then (
    fxL (α := Int32) (if a1 = a2 then 1 else 0) <| fun (v4 : Int32) =>
    fxBP (fX1_truth v4 σ) <| fun (r8 : Int32) =>
    some r8) else
  if a0 = (-8) then (
    fxL (α := Int32) (if a2 ≤ a1 then 0 else 1) <| fun (v11 : Int32) =>
    fxBP (fX1_truth v11 σ) <| fun (r15 : Int32) =>
    some r15) else
  if a0 = (-7) then (
    fxL (α := Int32) (if a1 = 0 then (if a2 = 0 then 0 else 1) else 1) <| fun (v18 : Int32) =>
    fxBP (fX1_truth v18 σ) <| fun (r23 : Int32) =>
    some r23) else
  if a0 = (-6) then (
    fxL (α := Int32) (if a1 = 0 then 0 else (if a2 = 0 then 0 else 1)) <| fun (v26 : Int32) =>
    fxBP (fX1_truth v26 σ) <| fun (r31 : Int32) =>
    some r31) else
  (
    some (a1 * a2))

def fX1_fact (a0 : Int32) (a1 : Int32) (a2 : Int32) (a3 : Int32) (a4 : Int32) (σ : FH) : Option Int32 :=
  if a0 = (-3) then (
    some a3) else
  if a0 = (-2) then (
    some a2) else
  if a0 = (-1) then (
    some a1) else
  (
    some a4)

def fX1_value_15 (t : Nat) (a1 : Int32) (a2 : Int32) (a3 : Int32) (a4 : Int32) (K2 : FH → Option (Int32 × FH)) : Nat → Int32 → Int32 → FH → Option (Int32 × FH)
  | 0, _, _, _ => none
  | n9 + 1, w5, w6, σ7 =>
    if (σ7.1 t 1) ≤ w6 then (
      K2 σ7)
    else (
      fxG (fx_in w6 1000 = true) <|
      fxL (α := Int32) (σ7.1 (t + 1) (Int32.toNatClampNeg w6)) <| fun (v12 : Int32) =>
      fxL (
          fxL (
              if v12 ≤ (-5) then (
                fX1_value_15 t a1 a2 a3 a4 K2 n9 w5 (w6 + 1) σ7)
              else (
                if 32 ≤ w5 then (
                  fX1_value_15 t a1 a2 a3 a4 K2 n9 w5 (w6 + 1) σ7)
                else (
                  fxL (fun (y18 : Int32) =>
                      fxG (fx_in w5 32 = true) <|
                      fxL (fx_si σ7 (t + 2) (Int32.toNatClampNeg w5) y18) <| fun (σ20 : FH) =>
                      fX1_value_15 t a1 a2 a3 a4 K2 n9 (w5 + 1) (w6 + 1) σ20) <| fun J17 =>
                  if v12 < 0 then (
                    fxBP (fX1_fact v12 a1 a2 a3 a4 σ7) <| fun (r23 : Int32) =>
                    J17 r23)
                  else (
                    J17 v12)))) <| fun J14 =>
          if v12 = (-5) then (
            if w5 < 1 then (
              J14)
            else (
              fxG (fx_in (w5 - 1) 32 = true) <|
              fxL (α := Int32) (if (σ7.1 (t + 2) (Int32.toNatClampNeg (w5 - 1))) = 0 then 1 else 0) <| fun (v28 : Int32) =>
              fxBP (fX1_truth v28 σ7) <| fun (r32 : Int32) =>
              fxG (fx_in (w5 - 1) 32 = true) <|
              fxL (fx_si σ7 (t + 2) (Int32.toNatClampNeg (w5 - 1)) r32) <| fun (σ35 : FH) =>
              fX1_value_15 t a1 a2 a3 a4 K2 n9 w5 (w6 + 1) σ35))
          else (
            J14)) <| fun J13 =>
      if (-5) ≤ v12 then (
        J13)
      else (
        if w5 < 2 then (
          J13)
        else (
          fxG (fx_in ((w5 + (-1)) - 1) 32 = true) <|
          fxG (fx_in (w5 + (-1)) 32 = true) <|
          fxBP (fX1_combine v12 (σ7.1 (t + 2) (Int32.toNatClampNeg ((w5 + (-1)) - 1))) (σ7.1 (t + 2) (Int32.toNatClampNeg (w5 + (-1)))) σ7) <| fun (r41 : Int32) =>
          fxG (fx_in ((w5 + (-1)) - 1) 32 = true) <|
          fxL (fx_si σ7 (t + 2) (Int32.toNatClampNeg ((w5 + (-1)) - 1)) r41) <| fun (σ44 : FH) =>
          fX1_value_15 t a1 a2 a3 a4 K2 n9 (w5 + (-1)) (w6 + 1) σ44)))
def fX1_value (t : Nat) (a1 : Int32) (a2 : Int32) (a3 : Int32) (a4 : Int32) (σ : FH) : Option (Int32 × FH) :=
  fxG (LX[t]? = some (1, 0)) <|
  if 0 < (σ.1 t 1) then (
    fxL (fun (σ3 : FH) =>
        fxG (fx_in 0 32 = true) <|
        some ((σ3.1 (t + 2) (Int32.toNatClampNeg 0)), σ3)) <| fun K2 =>
    fX1_value_15 t a1 a2 a3 a4 K2 FU 0 0 σ)
  else (
    some ((1 : Int32), σ))

def fX9_isWord (a1 : Nat) (σ : FH) : Option Int32 :=
  fxG (a1 < 24) <|
  if (σ.1 3 4) = 3 then (
    if (lg_cmp (σ.2.1 3 7) (fx_keys.getD a1 0)) = 0 then (
      some (1 : Int32))
    else (
      some (0 : Int32)))
  else (
    some (0 : Int32))

def fX9_isSign (a1 : Int32) (σ : FH) : Option Int32 :=
  fxL (α := Int32) (if (σ.1 3 4) = 4 then (if (σ.1 3 6) = a1 then 1 else 0) else 0) <| fun (v1 : Int32) =>
  fxG (fx_bo v1 = true) <|
  some v1

def fX2_stepHere (a1 : Int32) (σ : FH) : Option Int32 :=
  if a1 = 0 then (
    fxBP (fX9_isWord 18 σ) <| fun (r3 : Int32) =>
    if r3 = 0 then (
      fxBP (fX9_isWord 19 σ) <| fun (r7 : Int32) =>
      if r7 = 0 then (
        some (0 : Int32))
      else (
        some ((-7) : Int32)))
    else (
      some ((-6) : Int32))) else
  if a1 = 1 then (
    fxBP (fX9_isSign 60 σ) <| fun (r12 : Int32) =>
    if r12 = 0 then (
      fxBP (fX9_isSign 61 σ) <| fun (r16 : Int32) =>
      if r16 = 0 then (
        some (0 : Int32))
      else (
        some ((-9) : Int32)))
    else (
      some ((-8) : Int32))) else
  if a1 = 2 then (
    fxBP (fX9_isSign 43 σ) <| fun (r21 : Int32) =>
    if r21 = 0 then (
      fxBP (fX9_isSign 45 σ) <| fun (r25 : Int32) =>
      if r25 = 0 then (
        some (0 : Int32))
      else (
        some ((-11) : Int32)))
    else (
      some ((-10) : Int32))) else
  (
    fxBP (fX9_isSign 42 σ) <| fun (r29 : Int32) =>
    fxL (α := Int32) (if r29 = 0 then 0 else (-12)) <| fun (v31 : Int32) =>
    some v31)

def fX9_isBlank (a0 : Int32) (σ : FH) : Option Int32 :=
  fxL (α := Int32) (if a0 = 10 then 1 else (if a0 = 32 then 1 else 0)) <| fun (v1 : Int32) =>
  fxG (fx_bo v1 = true) <|
  some v1

def fX9_isLetter (a0 : Int32) (σ : FH) : Option Int32 :=
  fxL (α := Int32) (if a0 < 97 then 0 else (if 122 < a0 then 0 else 1)) <| fun (v1 : Int32) =>
  fxG (fx_bo v1 = true) <|
  some v1

def fX10_withLetter (a0 : Int64) (a2 : Int32) (σ : FH) : Option Int64 :=
  some ((a0 * 32) + (Int32.toInt64 ((a2 - 97) + 1)))

def fX9_readWord_13 (K3 : FH → Option FH) : Nat → FH → Option FH
  | 0, _ => none
  | n11 + 1, σ9 =>
    if (σ9.1 3 1) ≤ (σ9.1 3 3) then (
      K3 σ9)
    else (
      fxG (fx_in (σ9.1 3 3) 1000 = true) <|
      fxBP (fX9_isLetter (σ9.1 4 (Int32.toNatClampNeg (σ9.1 3 3))) σ9) <| fun (r15 : Int32) =>
      if r15 = 0 then (
        K3 σ9)
      else (
        fxG (fx_in (σ9.1 3 3) 1000 = true) <|
        fxBP (fX10_withLetter (σ9.2.1 3 7) (σ9.1 4 (Int32.toNatClampNeg (σ9.1 3 3))) σ9) <| fun (r20 : Int64) =>
        fxL (fx_sl σ9 3 7 r20) <| fun (σ22 : FH) =>
        fxL (fx_si σ22 3 3 ((σ22.1 3 3) + 1)) <| fun (σ23 : FH) =>
        fX9_readWord_13 K3 n11 σ23))
def fX9_readWord  (σ : FH) : Option FH :=
  fxL (fx_sl σ 3 7 0) <| fun (σ1 : FH) =>
  fxL (fx_si σ1 3 3 (σ1.1 3 2)) <| fun (σ2 : FH) =>
  fxL (fun (σ4 : FH) =>
      fxL (α := Int32) (if 8 < ((σ4.1 3 3) - (σ4.1 3 2)) then 0 else 3) <| fun (v5 : Int32) =>
      fxL (fx_si σ4 3 4 v5) <| fun (σ8 : FH) =>
      some σ8) <| fun K3 =>
  fX9_readWord_13 K3 FU σ2

def fX9_isDigit (a0 : Int32) (σ : FH) : Option Int32 :=
  fxL (α := Int32) (if a0 < 48 then 0 else (if 57 < a0 then 0 else 1)) <| fun (v1 : Int32) =>
  fxG (fx_bo v1 = true) <|
  some v1

def fX9_readNumber_13 (K3 : FH → Option FH) : Nat → FH → Option FH
  | 0, _ => none
  | n11 + 1, σ9 =>
    if (σ9.1 3 1) ≤ (σ9.1 3 3) then (
      K3 σ9)
    else (
      fxG (fx_in (σ9.1 3 3) 1000 = true) <|
      fxBP (fX9_isDigit (σ9.1 4 (Int32.toNatClampNeg (σ9.1 3 3))) σ9) <| fun (r15 : Int32) =>
      if r15 = 0 then (
        K3 σ9)
      else (
        fxG (fx_in (σ9.1 3 3) 1000 = true) <|
        fxL (fx_si σ9 3 5 (((σ9.1 3 5) * 10) + ((σ9.1 4 (Int32.toNatClampNeg (σ9.1 3 3))) - 48))) <| fun (σ19 : FH) =>
        fxL (fx_si σ19 3 3 ((σ19.1 3 3) + 1)) <| fun (σ20 : FH) =>
        fX9_readNumber_13 K3 n11 σ20))
def fX9_readNumber  (σ : FH) : Option FH :=
  fxL (fx_si σ 3 5 0) <| fun (σ1 : FH) =>
  fxL (fx_si σ1 3 3 (σ1.1 3 2)) <| fun (σ2 : FH) =>
  fxL (fun (σ4 : FH) =>
      fxL (α := Int32) (if 4 < ((σ4.1 3 3) - (σ4.1 3 2)) then 0 else 2) <| fun (v5 : Int32) =>
      fxL (fx_si σ4 3 4 v5) <| fun (σ8 : FH) =>
      some σ8) <| fun K3 =>
  fX9_readNumber_13 K3 FU σ2

def fJ0_isLatin1_aae02  (σ : FH) : Option Int32 :=
  if (1 : Int32) = 0 then (
    some (0 : Int32))
  else (
    if (0 : Int32) = 0 then (
      some (1 : Int32))
    else (
      some (0 : Int32)))

def fJ0_coder_7d493  (σ : FH) : Option Int32 :=
  if (1 : Int32) = 0 then (
    some (1 : Int32))
  else (
    some (0 : Int32))

def fJ0_length_8abf5  (σ : FH) : Option Int32 :=
  fxBP (fJ0_coder_7d493 σ) <| fun (r2 : Int32) =>
  some (8 >>> (r2 &&& 31))

def fJ1_canEncode_9a6ad (a0 : Int32) (σ : FH) : Option Int32 :=
  fxL (α := Int32) (if a0 < 0 then 0 else (if 255 < a0 then 0 else 1)) <| fun (v1 : Int32) =>
  fxG (fx_bo v1 = true) <|
  some v1

def fJ1_indexOfChar_4cfef_7 (a3 : Int32) (v1 : Int32) (K2 : Option Int32) : Nat → Int32 → Option Int32
  | 0, _ => none
  | n5 + 1, w3 =>
    if a3 ≤ w3 then (
      K2)
    else (
      fxG (fx_in w3 8 = true) <|
      if (fx_sgn.getD (Int32.toNatClampNeg w3) 0) = v1 then (
        some w3)
      else (
        fJ1_indexOfChar_4cfef_7 a3 v1 K2 n5 (w3 + 1)))
def fJ1_indexOfChar_4cfef (a1 : Int32) (a2 : Int32) (a3 : Int32) (σ : FH) : Option Int32 :=
  fxL (α := Int32) ((Int32.toInt8 a1).toInt32) <| fun (v1 : Int32) =>
  fxL (
      some ((-1) : Int32)) <| fun K2 =>
  fJ1_indexOfChar_4cfef_7 a3 v1 K2 FU a2

def fJ1_indexOf_4cfef (a1 : Int32) (a2 : Int32) (a3 : Int32) (σ : FH) : Option Int32 :=
  fxBP (fJ1_canEncode_9a6ad a1 σ) <| fun (r2 : Int32) =>
  if r2 = 0 then (
    some ((-1) : Int32))
  else (
    fxL (α := Int32) (if a2 < 0 then 0 else a2) <| fun (v5 : Int32) =>
    fxL (α := Int32) (if 8 < a3 then 8 else a3) <| fun (v6 : Int32) =>
    if v5 < v6 then (
      fxBP (fJ1_indexOfChar_4cfef a1 v5 v6 σ) <| fun (r9 : Int32) =>
      some r9)
    else (
      some ((-1) : Int32)))

def fJ0_indexOf_7cf53 (a1 : Int32) (a2 : Int32) (σ : FH) : Option Int32 :=
  fxBP (fJ0_isLatin1_aae02 σ) <| fun (r2 : Int32) =>
  if r2 = 0 then (
    fxBP (fJ0_length_8abf5 σ) <| fun (r6 : Int32) =>
    none)
  else (
    fxBP (fJ0_length_8abf5 σ) <| fun (r9 : Int32) =>
    fxBP (fJ1_indexOf_4cfef a1 a2 r9 σ) <| fun (r12 : Int32) =>
    some r12)

def fJ0_indexOf_0f7a4 (a1 : Int32) (σ : FH) : Option Int32 :=
  fxBP (fJ0_indexOf_7cf53 a1 0 σ) <| fun (r2 : Int32) =>
  some r2

def fX9_readSign  (σ : FH) : Option FH :=
  fxG (fx_in (σ.1 3 2) 1000 = true) <|
  fxG (fx_chb (σ.1 4 (Int32.toNatClampNeg (σ.1 3 2))) = true) <|
  fxL (fx_si σ 3 6 (σ.1 4 (Int32.toNatClampNeg (σ.1 3 2)))) <| fun (σ2 : FH) =>
  fxBP (fJ0_indexOf_0f7a4 (σ2.1 3 6) σ2) <| fun (r5 : Int32) =>
  fxL (α := Int32) (if r5 < 0 then 0 else 4) <| fun (v7 : Int32) =>
  fxL (fx_si σ2 3 4 v7) <| fun (σ10 : FH) =>
  some σ10

def fX9_advance_8 (K2 : FH → Option FH) : Nat → FH → Option FH
  | 0, _ => none
  | n29 + 1, σ27 =>
    if (σ27.1 3 1) ≤ (σ27.1 3 2) then (
      K2 σ27)
    else (
      fxG (fx_in (σ27.1 3 2) 1000 = true) <|
      fxBP (fX9_isBlank (σ27.1 4 (Int32.toNatClampNeg (σ27.1 3 2))) σ27) <| fun (r33 : Int32) =>
      if r33 = 0 then (
        K2 σ27)
      else (
        fxL (fx_si σ27 3 2 ((σ27.1 3 2) + 1)) <| fun (σ36 : FH) =>
        fX9_advance_8 K2 n29 σ36))
def fX9_advance  (σ : FH) : Option FH :=
  fxL (fx_si σ 3 2 (σ.1 3 3)) <| fun (σ1 : FH) =>
  fxL (fun (σ3 : FH) =>
      fxL (fx_si σ3 3 3 ((σ3.1 3 2) + 1)) <| fun (σ4 : FH) =>
      if (σ4.1 3 2) < (σ4.1 3 1) then (
        fxG (fx_in (σ4.1 3 2) 1000 = true) <|
        fxBP (fX9_isLetter (σ4.1 4 (Int32.toNatClampNeg (σ4.1 3 2))) σ4) <| fun (r8 : Int32) =>
        if r8 = 0 then (
          fxG (fx_in (σ4.1 3 2) 1000 = true) <|
          fxBP (fX9_isDigit (σ4.1 4 (Int32.toNatClampNeg (σ4.1 3 2))) σ4) <| fun (r13 : Int32) =>
          if r13 = 0 then (
            fxBV (fX9_readSign σ4) <| fun (σ18 : FH) =>
            some σ18)
          else (
            fxBV (fX9_readNumber σ4) <| fun (σ21 : FH) =>
            some σ21))
        else (
          fxBV (fX9_readWord σ4) <| fun (σ24 : FH) =>
          some σ24))
      else (
        fxL (fx_si σ4 3 3 (σ4.1 3 2)) <| fun (σ25 : FH) =>
        fxL (fx_si σ25 3 4 1) <| fun (σ26 : FH) =>
        some σ26)) <| fun K2 =>
  fX9_advance_8 K2 FU σ1

def fX2_factHere  (σ : FH) : Option Int32 :=
  fxBP (fX9_isWord 20 σ) <| fun (r2 : Int32) =>
  if r2 = 0 then (
    fxBP (fX9_isWord 21 σ) <| fun (r6 : Int32) =>
    if r6 = 0 then (
      fxBP (fX9_isWord 22 σ) <| fun (r10 : Int32) =>
      if r10 = 0 then (
        fxBP (fX9_isWord 23 σ) <| fun (r14 : Int32) =>
        if r14 = 0 then (
          some (0 : Int32))
        else (
          some ((-4) : Int32)))
      else (
        some ((-3) : Int32)))
    else (
      some ((-2) : Int32)))
  else (
    some ((-1) : Int32))

def fX9_isNumber  (σ : FH) : Option Int32 :=
  fxL (α := Int32) (if (σ.1 3 4) = 2 then 1 else 0) <| fun (v1 : Int32) =>
  fxG (fx_bo v1 = true) <|
  some v1

def fX9_wrong (a1 : Int32) (σ : FH) : Option (Int32 × FH) :=
  if (σ.1 3 8) = 0 then (
    fxL (fx_si σ 3 8 (a1 + (16 * (σ.1 3 2)))) <| fun (σ2 : FH) =>
    some ((0 : Int32), σ2))
  else (
    some ((0 : Int32), σ))

def fX2_readLevel_33 (rc_readLevel : Nat → Int32 → Int32 → FH → Option (Int32 × FH)) (a1 : Nat) (a2 : Int32) (a3 : Int32) (K8 : Int32 → FH → Option (Int32 × FH)) : Nat → Int32 → Int32 → Int32 → FH → Option (Int32 × FH)
  | 0, _, _, _, _ => none
  | n17 + 1, w12, w13, w14, σ15 =>
    if 1000 ≤ w14 then (
      K8 w12 σ15)
    else (
      if w12 = 0 then (
        K8 w12 σ15)
      else (
        if w13 = 0 then (
          K8 w12 σ15)
        else (
          fxBV (fX9_advance σ15) <| fun (σ23 : FH) =>
          fxBI (rc_readLevel a1 (a2 + 1) a3 σ23) <| fun (r25 : Int32) (σ26 : FH) =>
          fxBV (fX1_put a1 w13 σ26) <| fun (σ29 : FH) =>
          if a2 = 1 then (
            fX2_readLevel_33 rc_readLevel a1 a2 a3 K8 n17 r25 0 (w14 + 1) σ29)
          else (
            fxBP (fX2_stepHere a2 σ29) <| fun (r32 : Int32) =>
            fX2_readLevel_33 rc_readLevel a1 a2 a3 K8 n17 r25 r32 (w14 + 1) σ29))))
def bX2_readLevel (rc_readLevel : Nat → Int32 → Int32 → FH → Option (Int32 × FH)) (rc_readPart : Nat → Int32 → FH → Option (Int32 × FH)) (a1 : Nat) (a2 : Int32) (a3 : Int32) (σ : FH) : Option (Int32 × FH) :=
  fxG (LX[a1]? = some (1, 0)) <|
  if a2 ≤ 3 then (
    fxBI (rc_readLevel a1 (a2 + 1) a3 σ) <| fun (r3 : Int32) (σ4 : FH) =>
    fxBP (fX2_stepHere a2 σ4) <| fun (r6 : Int32) =>
    fxL (fun (x9 : Int32) (σ10 : FH) =>
        fxG (fx_bo x9 = true) <|
        some (x9, σ10)) <| fun K8 =>
    fX2_readLevel_33 rc_readLevel a1 a2 a3 K8 FU r3 r6 0 σ4)
  else (
    fxBI (rc_readPart a1 a3 σ) <| fun (r36 : Int32) (σ37 : FH) =>
    fxG (fx_bo r36 = true) <|
    some (r36, σ37))
def bX2_readPart (rc_readLevel : Nat → Int32 → Int32 → FH → Option (Int32 × FH)) (rc_readPart : Nat → Int32 → FH → Option (Int32 × FH)) (a1 : Nat) (a2 : Int32) (σ : FH) : Option (Int32 × FH) :=
  fxG (LX[a1]? = some (1, 0)) <|
  fxBP (fX2_factHere σ) <| fun (r2 : Int32) =>
  fxBP (fX9_isWord 17 σ) <| fun (r5 : Int32) =>
  fxBP (fX9_isSign 40 σ) <| fun (r8 : Int32) =>
  fxL (
      if a2 < 5 then (
        if r5 = 0 then (
          fxL (fun (σ14 : FH) =>
              fxBV (fX9_advance σ14) <| fun (σ17 : FH) =>
              some ((1 : Int32), σ17)) <| fun J13 =>
          if r8 = 0 then (
            fxL (α := Int32) (if r2 = 0 then (σ.1 3 5) else r2) <| fun (v19 : Int32) =>
            fxBV (fX1_put a1 v19 σ) <| fun (σ24 : FH) =>
            J13 σ24)
          else (
            fxBV (fX9_advance σ) <| fun (σ27 : FH) =>
            fxBI (rc_readLevel a1 0 (a2 + 1) σ27) <| fun (r29 : Int32) (σ30 : FH) =>
            if r29 = 0 then (
              some ((0 : Int32), σ30))
            else (
              fxBP (fX9_isSign 41 σ30) <| fun (r33 : Int32) =>
              if r33 = 0 then (
                fxBI (fX9_wrong 1 σ30) <| fun (r37 : Int32) (σ38 : FH) =>
                fxG (fx_bo r37 = true) <|
                some (r37, σ38))
              else (
                J13 σ30))))
        else (
          fxBV (fX9_advance σ) <| fun (σ42 : FH) =>
          fxBI (rc_readPart a1 (a2 + 1) σ42) <| fun (r44 : Int32) (σ45 : FH) =>
          fxBV (fX1_put a1 (-5) σ45) <| fun (σ48 : FH) =>
          fxG (fx_bo r44 = true) <|
          some (r44, σ48)))
      else (
        fxBI (fX9_wrong 5 σ) <| fun (r51 : Int32) (σ52 : FH) =>
        fxG (fx_bo r51 = true) <|
        some (r51, σ52))) <| fun J10 =>
  if r2 = 0 then (
    if r5 = 0 then (
      if r8 = 0 then (
        fxBP (fX9_isNumber σ) <| fun (r58 : Int32) =>
        if r58 = 0 then (
          fxBI (fX9_wrong 1 σ) <| fun (r62 : Int32) (σ63 : FH) =>
          fxG (fx_bo r62 = true) <|
          some (r62, σ63))
        else (
          J10))
      else (
        J10))
    else (
      J10))
  else (
    J10)
def gX2_rec : Nat → (Nat → Int32 → Int32 → FH → Option (Int32 × FH)) × (Nat → Int32 → FH → Option (Int32 × FH))
  | 0 => ((fun _ _ _ _ => none), (fun _ _ _ => none))
  | d + 1 => (bX2_readLevel (gX2_rec d).1 (gX2_rec d).2, bX2_readPart (gX2_rec d).1 (gX2_rec d).2)
def fX2_readLevel (d : Nat) : Nat → Int32 → Int32 → FH → Option (Int32 × FH) := (gX2_rec d).1
def fX2_readPart (d : Nat) : Nat → Int32 → FH → Option (Int32 × FH) := (gX2_rec d).2

def fX7_copyOf_28 (t : Nat) (a1 : Nat) (K3 : FH → Option FH) : Nat → Int32 → FH → Option FH
  | 0, _, _ => none
  | n11 + 1, w8, σ9 =>
    if 5 ≤ w8 then (
      K3 σ9)
    else (
      fxG (fx_in w8 5 = true) <|
      fxG (fx_in w8 5 = true) <|
      fxL (fx_si σ9 (t + 2) (Int32.toNatClampNeg w8) (σ9.1 (a1 + 2) (Int32.toNatClampNeg w8))) <| fun (σ15 : FH) =>
      fX7_copyOf_28 t a1 K3 n11 (w8 + 1) σ15)
def fX7_copyOf_2 (t : Nat) (a1 : Nat) (K1 : FH → Option FH) : Nat → Int32 → FH → Option FH
  | 0, _, _ => none
  | n20 + 1, w17, σ18 =>
    if 6 ≤ w17 then (
      K1 σ18)
    else (
      fxG (fx_in w17 6 = true) <|
      fxG (fx_in w17 6 = true) <|
      fxL (fx_si σ18 (t + 1) (Int32.toNatClampNeg w17) (σ18.1 (a1 + 1) (Int32.toNatClampNeg w17))) <| fun (σ24 : FH) =>
      fX7_copyOf_2 t a1 K1 n20 (w17 + 1) σ24)
def fX7_copyOf (t : Nat) (a1 : Nat) (σ : FH) : Option FH :=
  fxG (LX[t]? = some (7, 0)) <|
  fxG (LX[a1]? = some (7, 0)) <|
  fxL (fun (σ2 : FH) =>
      fxL (fun (σ4 : FH) =>
          fxL (fx_si σ4 t 2 (σ4.1 a1 2)) <| fun (σ5 : FH) =>
          fxL (fx_si σ5 t 3 (σ5.1 a1 3)) <| fun (σ6 : FH) =>
          fxL (fx_si σ6 t 4 (σ6.1 a1 4)) <| fun (σ7 : FH) =>
          some σ7) <| fun K3 =>
      fX7_copyOf_28 t a1 K3 FU 0 σ2) <| fun K1 =>
  fX7_copyOf_2 t a1 K1 FU 0 σ

def fX8_put (t : Nat) (a1 : Int32) (a2 : Int32) (a3 : Int32) (a4 : Int32) (σ : FH) : Option FH :=
  fxG (LX[t]? = some (8, 0)) <|
  if (σ.1 t 0) < 0 then (
    some σ)
  else (
    if 40 ≤ (σ.1 t 0) then (
      some σ)
    else (
      fxG (fx_in (σ.1 t 0) 40 = true) <|
      fxL (fx_si σ (t + 1) (Int32.toNatClampNeg (σ.1 t 0)) a1) <| fun (σ4 : FH) =>
      fxG (fx_in (σ4.1 t 0) 40 = true) <|
      fxL (fx_si σ4 (t + 2) (Int32.toNatClampNeg (σ4.1 t 0)) a2) <| fun (σ6 : FH) =>
      fxG (fx_in (σ6.1 t 0) 40 = true) <|
      fxL (fx_si σ6 (t + 3) (Int32.toNatClampNeg (σ6.1 t 0)) a3) <| fun (σ8 : FH) =>
      fxG (fx_in (σ8.1 t 0) 40 = true) <|
      fxL (fx_si σ8 (t + 4) (Int32.toNatClampNeg (σ8.1 t 0)) a4) <| fun (σ10 : FH) =>
      fxL (fx_si σ10 t 0 ((σ10.1 t 0) + 1)) <| fun (σ11 : FH) =>
      some σ11))

def fX8_copyOf_7 (t : Nat) (a1 : Nat) (K2 : FH → Option FH) : Nat → Int32 → FH → Option FH
  | 0, _, _ => none
  | n7 + 1, w4, σ5 =>
    if (σ5.1 a1 0) ≤ w4 then (
      K2 σ5)
    else (
      fxG (fx_in w4 40 = true) <|
      fxG (fx_in w4 40 = true) <|
      fxG (fx_in w4 40 = true) <|
      fxG (fx_in w4 40 = true) <|
      fxBV (fX8_put t (σ5.1 (a1 + 1) (Int32.toNatClampNeg w4)) (σ5.1 (a1 + 2) (Int32.toNatClampNeg w4)) (σ5.1 (a1 + 3) (Int32.toNatClampNeg w4)) (σ5.1 (a1 + 4) (Int32.toNatClampNeg w4)) σ5) <| fun (σ15 : FH) =>
      fX8_copyOf_7 t a1 K2 n7 (w4 + 1) σ15)
def fX8_copyOf (t : Nat) (a1 : Nat) (σ : FH) : Option FH :=
  fxG (LX[t]? = some (8, 0)) <|
  fxG (LX[a1]? = some (8, 0)) <|
  fxL (fx_si σ t 0 0) <| fun (σ1 : FH) =>
  fxL (fun (σ3 : FH) =>
      some σ3) <| fun K2 =>
  fX8_copyOf_7 t a1 K2 FU 0 σ1

def fX6_put (t : Nat) (a1 : Int32) (a2 : Int32) (σ : FH) : Option (Int32 × FH) :=
  fxG (LX[t]? = some (6, 0)) <|
  if (σ.1 t 0) < 0 then (
    some ((0 : Int32), σ))
  else (
    if (σ.1 t 0) < 8 then (
      fxG (fx_in (σ.1 t 0) 8 = true) <|
      fxL (fx_si σ (t + 1) (Int32.toNatClampNeg (σ.1 t 0)) a1) <| fun (σ4 : FH) =>
      fxG (fx_in (σ4.1 t 0) 8 = true) <|
      fxL (fx_si σ4 (t + 2) (Int32.toNatClampNeg (σ4.1 t 0)) (vp_nar .boolean a2)) <| fun (σ6 : FH) =>
      fxL (fx_si σ6 t 0 ((σ6.1 t 0) + 1)) <| fun (σ7 : FH) =>
      some ((1 : Int32), σ7))
    else (
      some ((0 : Int32), σ)))

def fX6_copyOf_7 (t : Nat) (a1 : Nat) (K2 : FH → Option FH) : Nat → Int32 → FH → Option FH
  | 0, _, _ => none
  | n7 + 1, w4, σ5 =>
    if (σ5.1 a1 0) ≤ w4 then (
      K2 σ5)
    else (
      fxG (fx_in w4 8 = true) <|
      fxG (fx_in w4 8 = true) <|
      fxBI (fX6_put t (σ5.1 (a1 + 1) (Int32.toNatClampNeg w4)) (σ5.1 (a1 + 2) (Int32.toNatClampNeg w4)) σ5) <| fun (r12 : Int32) (σ13 : FH) =>
      fX6_copyOf_7 t a1 K2 n7 (w4 + 1) σ13)
def fX6_copyOf (t : Nat) (a1 : Nat) (σ : FH) : Option FH :=
  fxG (LX[t]? = some (6, 0)) <|
  fxG (LX[a1]? = some (6, 0)) <|
  fxL (fx_si σ t 0 0) <| fun (σ1 : FH) =>
  fxL (fun (σ3 : FH) =>
      some σ3) <| fun K2 =>
  fX6_copyOf_7 t a1 K2 FU 0 σ1

def fX3_lay (t : Nat) (a1 : Nat) (a2 : Nat) (a3 : Nat) (σ : FH) : Option FH :=
  fxG (LX[t]? = some (3, 0)) <|
  fxG (LX[a1]? = some (7, 0)) <|
  fxG (LX[a2]? = some (8, 0)) <|
  fxG (LX[a3]? = some (6, 0)) <|
  fxBV (fX7_copyOf (t + 1) a1 σ) <| fun (σ3 : FH) =>
  fxBV (fX8_copyOf (t + 4) a2 σ3) <| fun (σ6 : FH) =>
  fxBV (fX6_copyOf (t + 9) a3 σ6) <| fun (σ9 : FH) =>
  fxL (fx_si σ9 t 0 1) <| fun (σ10 : FH) =>
  some σ10

def fX9_begin  (σ : FH) : Option FH :=
  fxL (fx_si σ 3 8 0) <| fun (σ1 : FH) =>
  fxL (fx_si σ1 3 3 0) <| fun (σ2 : FH) =>
  fxBV (fX9_advance σ2) <| fun (σ5 : FH) =>
  some σ5

def fX5_clear (t : Nat) (σ : FH) : Option FH :=
  fxG (LX[t]? = some (5, 0)) <|
  fxL (fx_si σ t 0 0) <| fun (σ1 : FH) =>
  fxL (fx_si σ1 t 5 0) <| fun (σ2 : FH) =>
  fxL (fx_si σ2 t 9 2) <| fun (σ3 : FH) =>
  fxL (fx_si σ3 t 10 0) <| fun (σ4 : FH) =>
  fxL (fx_si σ4 t 11 0) <| fun (σ5 : FH) =>
  fxL (fx_si σ5 (t + 8) 1 0) <| fun (σ6 : FH) =>
  some σ6

def fX9_atEnd  (σ : FH) : Option Int32 :=
  fxL (α := Int32) (if (σ.1 3 4) = 1 then 1 else 0) <| fun (v1 : Int32) =>
  fxG (fx_bo v1 = true) <|
  some v1

def fX10_isReserved_2 (a0 : Int64) (K1 : Option Int32) : Nat → Int32 → Option Int32
  | 0, _ => none
  | n4 + 1, w2 =>
    if 24 ≤ w2 then (
      K1)
    else (
      fxG (fx_in w2 24 = true) <|
      if (lg_cmp (fx_keys.getD (Int32.toNatClampNeg w2) 0) a0) = 0 then (
        fxG (fx_in w2 24 = true) <|
        fxG (fx_bo (fx_resv (Int32.toNatClampNeg w2)) = true) <|
        some (fx_resv (Int32.toNatClampNeg w2)))
      else (
        fX10_isReserved_2 a0 K1 n4 (w2 + 1)))
def fX10_isReserved (a0 : Int64) (σ : FH) : Option Int32 :=
  fxL (
      some (0 : Int32)) <| fun K1 =>
  fX10_isReserved_2 a0 K1 FU 0

def fX9_isName  (σ : FH) : Option Int32 :=
  if (σ.1 3 4) = 3 then (
    fxBP (fX10_isReserved (σ.2.1 3 7) σ) <| fun (r3 : Int32) =>
    if r3 = 0 then (
      some (1 : Int32))
    else (
      some (0 : Int32)))
  else (
    some (0 : Int32))

def fX5_wareNamed_2 (t : Nat) (a1 : Int64) (σ : FH) (K1 : Option Int32) : Nat → Int32 → Option Int32
  | 0, _ => none
  | n4 + 1, w2 =>
    if (σ.1 t 0) ≤ w2 then (
      K1)
    else (
      fxG (fx_in w2 6 = true) <|
      if (lg_cmp (σ.2.1 (t + 1) (Int32.toNatClampNeg w2)) a1) = 0 then (
        some w2)
      else (
        fX5_wareNamed_2 t a1 σ K1 n4 (w2 + 1)))
def fX5_wareNamed (t : Nat) (a1 : Int64) (σ : FH) : Option Int32 :=
  fxG (LX[t]? = some (5, 0)) <|
  fxL (
      some ((-1) : Int32)) <| fun K1 =>
  fX5_wareNamed_2 t a1 σ K1 FU 0

def fX5_partyNamed_2 (t : Nat) (a1 : Int64) (σ : FH) (K1 : Option Int32) : Nat → Int32 → Option Int32
  | 0, _ => none
  | n4 + 1, w2 =>
    if (σ.1 t 5) ≤ w2 then (
      K1)
    else (
      fxG (fx_in w2 5 = true) <|
      if (lg_cmp (σ.2.1 (t + 5) (Int32.toNatClampNeg w2)) a1) = 0 then (
        some w2)
      else (
        fX5_partyNamed_2 t a1 σ K1 n4 (w2 + 1)))
def fX5_partyNamed (t : Nat) (a1 : Int64) (σ : FH) : Option Int32 :=
  fxG (LX[t]? = some (5, 0)) <|
  fxL (
      some ((-1) : Int32)) <| fun K1 =>
  fX5_partyNamed_2 t a1 σ K1 FU 0

def fX4_takeNewName (a1 : Nat) (σ : FH) : Option (Int32 × FH) :=
  fxG (LX[a1]? = some (5, 0)) <|
  fxBP (fX9_isName σ) <| fun (r2 : Int32) =>
  if r2 = 0 then (
    fxBI (fX9_wrong 1 σ) <| fun (r22 : Int32) (σ23 : FH) =>
    fxG (fx_bo r22 = true) <|
    some (r22, σ23))
  else (
    fxBP (fX5_wareNamed a1 (σ.2.1 3 7) σ) <| fun (r6 : Int32) =>
    fxL (
        fxBI (fX9_wrong 3 σ) <| fun (r10 : Int32) (σ11 : FH) =>
        fxG (fx_bo r10 = true) <|
        some (r10, σ11)) <| fun J8 =>
    if r6 = (-1) then (
      fxBP (fX5_partyNamed a1 (σ.2.1 3 7) σ) <| fun (r15 : Int32) =>
      if r15 = (-1) then (
        fxBV (fX9_advance σ) <| fun (σ20 : FH) =>
        some ((1 : Int32), σ20))
      else (
        J8))
    else (
      J8))

def fX4_takeKind (a1 : Nat) (a2 : Int32) (σ : FH) : Option (Int32 × FH) :=
  fxG (LX[a1]? = some (5, 0)) <|
  fxBP (fX9_isWord 13 σ) <| fun (r2 : Int32) =>
  fxL (fun (y5 : Int32) =>
      if y5 = (-1) then (
        fxBI (fX9_wrong 1 σ) <| fun (r13 : Int32) (σ14 : FH) =>
        fxG (fx_bo r13 = true) <|
        some (r13, σ14))
      else (
        fxG (fx_in a2 6 = true) <|
        fxL (fx_si σ (a1 + 2) (Int32.toNatClampNeg a2) y5) <| fun (σ8 : FH) =>
        fxBV (fX9_advance σ8) <| fun (σ11 : FH) =>
        some ((1 : Int32), σ11))) <| fun J4 =>
  if r2 = 0 then (
    fxBP (fX9_isWord 14 σ) <| fun (r18 : Int32) =>
    if r18 = 0 then (
      fxBP (fX9_isWord 15 σ) <| fun (r22 : Int32) =>
      if r22 = 0 then (
        fxBP (fX9_isWord 16 σ) <| fun (r26 : Int32) =>
        if r26 = 0 then (
          J4 (-1))
        else (
          J4 3))
      else (
        J4 2))
    else (
      J4 1))
  else (
    J4 0)

def fX9_takeWord (a1 : Nat) (σ : FH) : Option (Int32 × FH) :=
  fxG (a1 < 24) <|
  fxBP (fX9_isWord a1 σ) <| fun (r2 : Int32) =>
  if r2 = 0 then (
    fxBI (fX9_wrong 1 σ) <| fun (r9 : Int32) (σ10 : FH) =>
    fxG (fx_bo r9 = true) <|
    some (r9, σ10))
  else (
    fxBV (fX9_advance σ) <| fun (σ7 : FH) =>
    some ((1 : Int32), σ7))

def fX9_takeNumber (a1 : Int32) (a2 : Int32) (σ : FH) : Option (Int32 × FH) :=
  fxBP (fX9_isNumber σ) <| fun (r2 : Int32) =>
  if r2 = 0 then (
    fxBI (fX9_wrong 1 σ) <| fun (r16 : Int32) (σ17 : FH) =>
    some (((-1) : Int32), σ17))
  else (
    fxL (
        fxBI (fX9_wrong 4 σ) <| fun (r7 : Int32) (σ8 : FH) =>
        some (((-1) : Int32), σ8)) <| fun J5 =>
    if (σ.1 3 5) < a1 then (
      J5)
    else (
      if (σ.1 3 5) ≤ a2 then (
        fxL (α := Int32) (σ.1 3 5) <| fun (v11 : Int32) =>
        fxBV (fX9_advance σ) <| fun (σ14 : FH) =>
        some (v11, σ14))
      else (
        J5)))

def fX4_readWare (a1 : Nat) (σ : FH) : Option (Int32 × FH) :=
  fxG (LX[a1]? = some (5, 0)) <|
  fxL (α := Int32) (σ.1 a1 0) <| fun (v1 : Int32) =>
  if v1 < 6 then (
    fxBV (fX9_advance σ) <| fun (σ5 : FH) =>
    fxL (α := Int64) (σ5.2.1 3 7) <| fun (v6 : Int64) =>
    fxBI (fX4_takeNewName a1 σ5) <| fun (r8 : Int32) (σ9 : FH) =>
    if r8 = 0 then (
      some ((0 : Int32), σ9))
    else (
      fxBI (fX4_takeKind a1 v1 σ9) <| fun (r12 : Int32) (σ13 : FH) =>
      if r12 = 0 then (
        some ((0 : Int32), σ13))
      else (
        fxBI (fX9_takeWord 1 σ13) <| fun (r16 : Int32) (σ17 : FH) =>
        if r16 = 0 then (
          some ((0 : Int32), σ17))
        else (
          fxBI (fX9_takeNumber 2 60 σ17) <| fun (r20 : Int32) (σ21 : FH) =>
          if r20 = (-1) then (
            some ((0 : Int32), σ21))
          else (
            fxBI (fX9_takeWord 2 σ21) <| fun (r24 : Int32) (σ25 : FH) =>
            if r24 = 0 then (
              some ((0 : Int32), σ25))
            else (
              fxBI (fX9_takeNumber 0 30 σ25) <| fun (r28 : Int32) (σ29 : FH) =>
              if r28 = (-1) then (
                some ((0 : Int32), σ29))
              else (
                fxG (fx_in v1 6 = true) <|
                fxL (fx_sl σ29 (a1 + 1) (Int32.toNatClampNeg v1) v6) <| fun (σ32 : FH) =>
                fxG (fx_in v1 6 = true) <|
                fxL (fx_si σ32 (a1 + 3) (Int32.toNatClampNeg v1) r20) <| fun (σ34 : FH) =>
                fxG (fx_in v1 6 = true) <|
                fxL (fx_si σ34 (a1 + 4) (Int32.toNatClampNeg v1) (if (r20 / 2) < r28 then (r20 / 2) else r28)) <| fun (σ36 : FH) =>
                fxL (fx_si σ36 a1 0 (v1 + 1)) <| fun (σ37 : FH) =>
                some ((1 : Int32), σ37))))))))
  else (
    fxBI (fX9_wrong 5 σ) <| fun (r39 : Int32) (σ40 : FH) =>
    fxG (fx_bo r39 = true) <|
    some (r39, σ40))

def fX4_readParty (a1 : Nat) (σ : FH) : Option (Int32 × FH) :=
  fxG (LX[a1]? = some (5, 0)) <|
  fxL (α := Int32) (σ.1 a1 5) <| fun (v1 : Int32) =>
  if v1 < 5 then (
    fxBV (fX9_advance σ) <| fun (σ5 : FH) =>
    fxL (α := Int64) (σ5.2.1 3 7) <| fun (v6 : Int64) =>
    fxBI (fX4_takeNewName a1 σ5) <| fun (r8 : Int32) (σ9 : FH) =>
    if r8 = 0 then (
      some ((0 : Int32), σ9))
    else (
      fxBI (fX9_takeWord 4 σ9) <| fun (r12 : Int32) (σ13 : FH) =>
      if r12 = 0 then (
        some ((0 : Int32), σ13))
      else (
        fxBI (fX9_takeNumber 0 40 σ13) <| fun (r16 : Int32) (σ17 : FH) =>
        if r16 = (-1) then (
          some ((0 : Int32), σ17))
        else (
          fxG (fx_in v1 5 = true) <|
          fxL (fx_sl σ17 (a1 + 5) (Int32.toNatClampNeg v1) v6) <| fun (σ20 : FH) =>
          fxG (fx_in v1 5 = true) <|
          fxL (fx_si σ20 (a1 + 6) (Int32.toNatClampNeg v1) r16) <| fun (σ22 : FH) =>
          fxG (fx_in v1 5 = true) <|
          fxL (fx_si σ22 (a1 + 7) (Int32.toNatClampNeg v1) 0) <| fun (σ24 : FH) =>
          fxL (fx_si σ24 a1 5 (v1 + 1)) <| fun (σ25 : FH) =>
          some ((1 : Int32), σ25)))))
  else (
    fxBI (fX9_wrong 5 σ) <| fun (r27 : Int32) (σ28 : FH) =>
    fxG (fx_bo r27 = true) <|
    some (r27, σ28))

def fX4_partyHere (a1 : Nat) (σ : FH) : Option Int32 :=
  fxG (LX[a1]? = some (5, 0)) <|
  fxBP (fX9_isName σ) <| fun (r2 : Int32) =>
  if r2 = 0 then (
    some ((-1) : Int32))
  else (
    fxBP (fX5_partyNamed a1 (σ.2.1 3 7) σ) <| fun (r6 : Int32) =>
    some r6)

def fX4_takeNamed (a1 : Int32) (a2 : Int32) (σ : FH) : Option (Int32 × FH) :=
  fxBP (fX9_isName σ) <| fun (r2 : Int32) =>
  if r2 = 0 then (
    fxBI (fX9_wrong 1 σ) <| fun (r17 : Int32) (σ18 : FH) =>
    some (((-1) : Int32), σ18))
  else (
    if a1 = (-1) then (
      fxBI (fX9_wrong 2 σ) <| fun (r14 : Int32) (σ15 : FH) =>
      some (((-1) : Int32), σ15))
    else (
      if a1 = a2 then (
        fxBI (fX9_wrong 3 σ) <| fun (r11 : Int32) (σ12 : FH) =>
        some (((-1) : Int32), σ12))
      else (
        fxBV (fX9_advance σ) <| fun (σ9 : FH) =>
        some (a1, σ9))))

def fX4_wareHere (a1 : Nat) (σ : FH) : Option Int32 :=
  fxG (LX[a1]? = some (5, 0)) <|
  fxBP (fX9_isName σ) <| fun (r2 : Int32) =>
  if r2 = 0 then (
    some ((-1) : Int32))
  else (
    fxBP (fX5_wareNamed a1 (σ.2.1 3 7) σ) <| fun (r6 : Int32) =>
    some r6)

def fX5_isFor (t : Nat) (a1 : Int32) (a2 : Int32) (σ : FH) : Option Int32 :=
  fxG (LX[t]? = some (5, 0)) <|
  fxG (fx_in a1 5 = true) <|
  fxL (α := Int32) (if (((σ.1 (t + 7) (Int32.toNatClampNeg a1)) >>> (a2 &&& 31)) &&& 1) = 1 then 1 else 0) <| fun (v2 : Int32) =>
  fxG (fx_bo v2 = true) <|
  some v2

def fX4_readCause (a1 : Nat) (σ : FH) : Option (Int32 × FH) :=
  fxG (LX[a1]? = some (5, 0)) <|
  fxBV (fX9_advance σ) <| fun (σ3 : FH) =>
  fxBP (fX4_partyHere a1 σ3) <| fun (r5 : Int32) =>
  fxBI (fX4_takeNamed r5 (-1) σ3) <| fun (r8 : Int32) (σ9 : FH) =>
  if r8 = (-1) then (
    some ((0 : Int32), σ9))
  else (
    fxBP (fX4_wareHere a1 σ9) <| fun (r12 : Int32) =>
    fxL (fun (y15 : Int32) =>
        fxBI (fX4_takeNamed r12 y15 σ9) <| fun (r17 : Int32) (σ18 : FH) =>
        if r17 = (-1) then (
          some ((0 : Int32), σ18))
        else (
          fxG (fx_in r8 5 = true) <|
          fxG (fx_in r8 5 = true) <|
          fxL (fx_si σ18 (a1 + 7) (Int32.toNatClampNeg r8) ((σ18.1 (a1 + 7) (Int32.toNatClampNeg r8)) ||| (1 <<< (r12 &&& 31)))) <| fun (σ22 : FH) =>
          some ((1 : Int32), σ22))) <| fun J14 =>
    fxL (
        J14 (-1)) <| fun J23 =>
    if r12 = (-1) then (
      J23)
    else (
      fxBP (fX5_isFor a1 r8 r12 σ9) <| fun (r26 : Int32) =>
      if r26 = 0 then (
        J23)
      else (
        J14 r12)))

def fX4_readFine (a1 : Nat) (σ : FH) : Option (Int32 × FH) :=
  fxG (LX[a1]? = some (5, 0)) <|
  if (σ.1 a1 10) = 0 then (
    fxBV (fX9_advance σ) <| fun (σ4 : FH) =>
    fxBI (fX9_takeNumber 1 9 σ4) <| fun (r6 : Int32) (σ7 : FH) =>
    if r6 = (-1) then (
      some ((0 : Int32), σ7))
    else (
      fxL (fx_si σ7 a1 9 r6) <| fun (σ9 : FH) =>
      fxL (fx_si σ9 a1 10 1) <| fun (σ10 : FH) =>
      some ((1 : Int32), σ10)))
  else (
    fxBI (fX9_wrong 3 σ) <| fun (r12 : Int32) (σ13 : FH) =>
    fxG (fx_bo r12 = true) <|
    some (r12, σ13))

def fX4_readWorks (a1 : Nat) (σ : FH) : Option (Int32 × FH) :=
  fxG (LX[a1]? = some (5, 0)) <|
  if (σ.1 a1 11) = 0 then (
    fxL (fx_si σ a1 11 1) <| fun (σ2 : FH) =>
    fxBV (fX9_advance σ2) <| fun (σ5 : FH) =>
    fxBI (fX2_readLevel 40 (a1 + 8) 0 0 σ5) <| fun (r7 : Int32) (σ8 : FH) =>
    fxG (fx_bo r7 = true) <|
    some (r7, σ8))
  else (
    fxBI (fX9_wrong 3 σ) <| fun (r11 : Int32) (σ12 : FH) =>
    fxG (fx_bo r11 = true) <|
    some (r11, σ12))

def fX4_readTelling (a1 : Nat) (σ : FH) : Option (Int32 × FH) :=
  fxG (LX[a1]? = some (5, 0)) <|
  fxBP (fX9_isWord 0 σ) <| fun (r2 : Int32) =>
  if r2 = 0 then (
    fxBP (fX9_isWord 3 σ) <| fun (r6 : Int32) =>
    if r6 = 0 then (
      fxBP (fX9_isWord 5 σ) <| fun (r10 : Int32) =>
      if r10 = 0 then (
        fxBP (fX9_isWord 6 σ) <| fun (r14 : Int32) =>
        if r14 = 0 then (
          fxBP (fX9_isWord 7 σ) <| fun (r18 : Int32) =>
          if r18 = 0 then (
            fxBI (fX9_wrong 1 σ) <| fun (r22 : Int32) (σ23 : FH) =>
            fxG (fx_bo r22 = true) <|
            some (r22, σ23))
          else (
            fxBI (fX4_readWorks a1 σ) <| fun (r26 : Int32) (σ27 : FH) =>
            fxG (fx_bo r26 = true) <|
            some (r26, σ27)))
        else (
          fxBI (fX4_readFine a1 σ) <| fun (r30 : Int32) (σ31 : FH) =>
          fxG (fx_bo r30 = true) <|
          some (r30, σ31)))
      else (
        fxBI (fX4_readCause a1 σ) <| fun (r34 : Int32) (σ35 : FH) =>
        fxG (fx_bo r34 = true) <|
        some (r34, σ35)))
    else (
      fxBI (fX4_readParty a1 σ) <| fun (r38 : Int32) (σ39 : FH) =>
      fxG (fx_bo r38 = true) <|
      some (r38, σ39)))
  else (
    fxBI (fX4_readWare a1 σ) <| fun (r42 : Int32) (σ43 : FH) =>
    fxG (fx_bo r42 = true) <|
    some (r42, σ43))

def fX9_takeSign (a1 : Int32) (σ : FH) : Option (Int32 × FH) :=
  fxBP (fX9_isSign a1 σ) <| fun (r2 : Int32) =>
  if r2 = 0 then (
    fxBI (fX9_wrong 1 σ) <| fun (r9 : Int32) (σ10 : FH) =>
    fxG (fx_bo r9 = true) <|
    some (r9, σ10))
  else (
    fxBV (fX9_advance σ) <| fun (σ7 : FH) =>
    some ((1 : Int32), σ7))

def fX9_clear  (σ : FH) : Option FH :=
  fxL (fx_si σ 3 1 0) <| fun (σ1 : FH) =>
  some σ1

def fX4_readRepublic_15 (a1 : Nat) (K7 : FH → Option (Int32 × FH)) : Nat → Int32 → Int32 → FH → Option (Int32 × FH)
  | 0, _, _, _ => none
  | n16 + 1, w12, w13, σ14 =>
    if 1000 ≤ w13 then (
      K7 σ14)
    else (
      if w12 = 0 then (
        K7 σ14)
      else (
        fxBP (fX9_atEnd σ14) <| fun (r20 : Int32) =>
        if r20 = 0 then (
          fxBI (fX4_readTelling a1 σ14) <| fun (r24 : Int32) (σ25 : FH) =>
          if r24 = 0 then (
            fX4_readRepublic_15 a1 K7 n16 0 (w13 + 1) σ25)
          else (
            fxBI (fX9_takeSign 59 σ25) <| fun (r28 : Int32) (σ29 : FH) =>
            if r28 = 0 then (
              fX4_readRepublic_15 a1 K7 n16 0 (w13 + 1) σ29)
            else (
              fX4_readRepublic_15 a1 K7 n16 1 (w13 + 1) σ29)))
        else (
          K7 σ14)))
def fX4_readRepublic (a1 : Nat) (σ : FH) : Option (Int32 × FH) :=
  fxG (LX[a1]? = some (5, 0)) <|
  fxBV (fX9_begin σ) <| fun (σ3 : FH) =>
  fxBV (fX5_clear a1 σ3) <| fun (σ6 : FH) =>
  fxL (fun (σ8 : FH) =>
      fxBV (fX9_clear σ8) <| fun (σ11 : FH) =>
      some ((σ11.1 3 8), σ11)) <| fun K7 =>
  fX4_readRepublic_15 a1 K7 FU 1 0 σ6

def fX4_deedHere  (σ : FH) : Option Int32 :=
  fxBP (fX9_isWord 8 σ) <| fun (r2 : Int32) =>
  if r2 = 0 then (
    fxBP (fX9_isWord 9 σ) <| fun (r6 : Int32) =>
    if r6 = 0 then (
      fxBP (fX9_isWord 10 σ) <| fun (r10 : Int32) =>
      if r10 = 0 then (
        fxBP (fX9_isWord 11 σ) <| fun (r14 : Int32) =>
        if r14 = 0 then (
          fxBP (fX9_isWord 12 σ) <| fun (r18 : Int32) =>
          if r18 = 0 then (
            some ((-1) : Int32))
          else (
            some (4 : Int32)))
        else (
          some (3 : Int32)))
      else (
        some (2 : Int32)))
    else (
      some (1 : Int32)))
  else (
    some (0 : Int32))

def fX4_readLine (a1 : Nat) (a2 : Nat) (σ : FH) : Option (Int32 × FH) :=
  fxG (LX[a1]? = some (5, 0)) <|
  fxG (LX[a2]? = some (8, 0)) <|
  fxBP (fX4_deedHere σ) <| fun (r2 : Int32) =>
  if r2 = (-1) then (
    fxBI (fX9_wrong 1 σ) <| fun (r68 : Int32) (σ69 : FH) =>
    fxG (fx_bo r68 = true) <|
    some (r68, σ69))
  else (
    if (σ.1 a2 0) < 40 then (
      fxBV (fX9_advance σ) <| fun (σ8 : FH) =>
      if r2 = 4 then (
        fxBV (fX8_put a2 r2 0 0 0 σ8) <| fun (σ62 : FH) =>
        some ((1 : Int32), σ62))
      else (
        fxL (α := Int32) (if r2 = 3 then 1 else 0) <| fun (v10 : Int32) =>
        fxL (fun (y14 : Int32) =>
            fxBI (fX4_takeNamed y14 (-1) σ8) <| fun (r16 : Int32) (σ17 : FH) =>
            fxL (fun (x19 : Int32) (σ20 : FH) =>
                if r16 = (-1) then (
                  some ((0 : Int32), σ20))
                else (
                  if x19 = (-1) then (
                    some ((0 : Int32), σ20))
                  else (
                    fxL (fun (y24 : Int32) (σ25 : FH) =>
                        fxBV (fX8_put a2 r2 r16 x19 y24 σ25) <| fun (σ28 : FH) =>
                        fxL (α := Int32) (if y24 = (-1) then 0 else 1) <| fun (v29 : Int32) =>
                        fxG (fx_bo v29 = true) <|
                        some (v29, σ28)) <| fun J23 =>
                    if r2 = 2 then (
                      J23 0 σ20)
                    else (
                      fxBI (fX9_takeNumber 1 20 σ20) <| fun (r35 : Int32) (σ36 : FH) =>
                      J23 r35 σ36)))) <| fun J18 =>
            if r16 = (-1) then (
              J18 0 σ17)
            else (
              fxL (
                  fxL (fun (y40 : Int32) =>
                      fxBI (fX4_takeNamed y40 r16 σ17) <| fun (r42 : Int32) (σ43 : FH) =>
                      J18 r42 σ43) <| fun J39 =>
                  if v10 = 0 then (
                    fxBP (fX4_wareHere a1 σ17) <| fun (r46 : Int32) =>
                    J39 r46)
                  else (
                    fxBP (fX4_partyHere a1 σ17) <| fun (r49 : Int32) =>
                    J39 r49)) <| fun J38 =>
              if v10 = 0 then (
                if r2 = 2 then (
                  J38)
                else (
                  J18 0 σ17))
              else (
                J38))) <| fun J13 =>
        if v10 = 0 then (
          fxBP (fX4_wareHere a1 σ8) <| fun (r55 : Int32) =>
          J13 r55)
        else (
          fxBP (fX4_partyHere a1 σ8) <| fun (r58 : Int32) =>
          J13 r58)))
    else (
      fxBI (fX9_wrong 5 σ) <| fun (r64 : Int32) (σ65 : FH) =>
      fxG (fx_bo r64 = true) <|
      some (r64, σ65)))

def fX4_readTerm_17 (a1 : Nat) (a2 : Nat) (K5 : FH → Option (Int32 × FH)) : Nat → Int32 → Int32 → FH → Option (Int32 × FH)
  | 0, _, _, _ => none
  | n14 + 1, w10, w11, σ12 =>
    if 1000 ≤ w11 then (
      K5 σ12)
    else (
      if w10 = 0 then (
        K5 σ12)
      else (
        fxBP (fX9_atEnd σ12) <| fun (r18 : Int32) =>
        if r18 = 0 then (
          fxBI (fX4_readLine a1 a2 σ12) <| fun (r22 : Int32) (σ23 : FH) =>
          if r22 = 0 then (
            fX4_readTerm_17 a1 a2 K5 n14 0 (w11 + 1) σ23)
          else (
            fxBI (fX9_takeSign 59 σ23) <| fun (r26 : Int32) (σ27 : FH) =>
            if r26 = 0 then (
              fX4_readTerm_17 a1 a2 K5 n14 0 (w11 + 1) σ27)
            else (
              fX4_readTerm_17 a1 a2 K5 n14 1 (w11 + 1) σ27)))
        else (
          K5 σ12)))
def fX4_readTerm (a1 : Nat) (a2 : Nat) (σ : FH) : Option (Int32 × FH) :=
  fxG (LX[a1]? = some (5, 0)) <|
  fxG (LX[a2]? = some (8, 0)) <|
  fxBV (fX9_begin σ) <| fun (σ3 : FH) =>
  fxL (fx_si σ3 a2 0 0) <| fun (σ4 : FH) =>
  fxL (fun (σ6 : FH) =>
      fxBV (fX9_clear σ6) <| fun (σ9 : FH) =>
      some ((σ9.1 3 8), σ9)) <| fun K5 =>
  fX4_readTerm_17 a1 a2 K5 FU 1 0 σ4

def fX5_hasWare (t : Nat) (a1 : Int32) (σ : FH) : Option Int32 :=
  fxG (LX[t]? = some (5, 0)) <|
  fxL (α := Int32) (if a1 < 0 then 0 else (if (σ.1 t 0) ≤ a1 then 0 else 1)) <| fun (v1 : Int32) =>
  fxG (fx_bo v1 = true) <|
  some v1

def fX5_hasParty (t : Nat) (a1 : Int32) (σ : FH) : Option Int32 :=
  fxG (LX[t]? = some (5, 0)) <|
  fxL (α := Int32) (if a1 < 0 then 0 else (if (σ.1 t 5) ≤ a1 then 0 else 1)) <| fun (v1 : Int32) =>
  fxG (fx_bo v1 = true) <|
  some v1

def fX5_halfOf (t : Nat) (a1 : Int32) (σ : FH) : Option Int32 :=
  fxG (LX[t]? = some (5, 0)) <|
  fxG (fx_in a1 6 = true) <|
  some ((σ.1 (t + 3) (Int32.toNatClampNeg a1)) / 2)

def fX5_couldPair (t : Nat) (a1 : Int32) (a2 : Int32) (σ : FH) : Option Int32 :=
  fxG (LX[t]? = some (5, 0)) <|
  fxBP (fX5_hasWare t a1 σ) <| fun (r2 : Int32) =>
  if r2 = 0 then (
    some (0 : Int32))
  else (
    fxBP (fX5_hasWare t a2 σ) <| fun (r6 : Int32) =>
    if r6 = 0 then (
      some (0 : Int32))
    else (
      if a1 = a2 then (
        some (0 : Int32))
      else (
        fxG (fx_in a1 6 = true) <|
        fxG (fx_in a2 6 = true) <|
        if (σ.1 (t + 3) (Int32.toNatClampNeg a1)) = (σ.1 (t + 3) (Int32.toNatClampNeg a2)) then (
          some (1 : Int32))
        else (
          some (0 : Int32)))))

def fX5_agreement (t : Nat) (a1 : Int32) (a2 : Int32) (σ : FH) : Option Int32 :=
  fxG (LX[t]? = some (5, 0)) <|
  fxG (fx_in a1 5 = true) <|
  fxG (fx_in a2 5 = true) <|
  fxBP (fJ6_bitCount_0f7a4 ((σ.1 (t + 7) (Int32.toNatClampNeg a1)) ^^^ (σ.1 (t + 7) (Int32.toNatClampNeg a2))) σ) <| fun (r4 : Int32) =>
  some ((σ.1 t 0) - r4)

def fX5_weekWork (t : Nat) (a1 : Int32) (a2 : Int32) (a3 : Int32) (a4 : Int32) (a5 : Int32) (σ : FH) : Option (Int32 × FH) :=
  fxG (LX[t]? = some (5, 0)) <|
  fxL (
      fxBI (fX1_value (t + 8) a2 a3 a4 a5 σ) <| fun (r3 : Int32) (σ4 : FH) =>
      fxL (α := Int32) (if 0 < (if r3 < 9 then r3 else 9) then (if r3 < 9 then r3 else 9) else 0) <| fun (v5 : Int32) =>
      if a1 = 1 then (
        some ((2 * v5), σ4))
      else (
        if a1 = 2 then (
          some ((if (((a3 - a2) + 1) / 2) < v5 then (((a3 - a2) + 1) / 2) else v5), σ4))
        else (
          some (v5, σ4)))) <| fun J1 =>
  if a1 = 3 then (
    if (a5 - a5 / 2 * 2) = 0 then (
      J1)
    else (
      some ((0 : Int32), σ)))
  else (
    J1)

def fX6_weeksTo_5 (a0 : Nat) (a1 : Int32) (a2 : Int32) (K1 : FH → Option (Int32 × FH)) : Nat → Int32 → Int32 → FH → Option (Int32 × FH)
  | 0, _, _, _ => none
  | n7 + 1, w3, w4, σ5 =>
    if 30 < w4 then (
      K1 σ5)
    else (
      if w3 < a1 then (
        fxBI (fX5_weekWork a0 0 w3 a1 0 (a2 + w4) σ5) <| fun (r11 : Int32) (σ12 : FH) =>
        fxL (α := Int32) (w3 + r11) <| fun (v13 : Int32) =>
        fX6_weeksTo_5 a0 a1 a2 K1 n7 v13 (w4 + 1) σ12)
      else (
        some (w4, σ5)))
def fX6_weeksTo (a0 : Nat) (a1 : Int32) (a2 : Int32) (σ : FH) : Option (Int32 × FH) :=
  fxG (LX[a0]? = some (5, 0)) <|
  fxL (fun (σ2 : FH) =>
      some ((31 : Int32), σ2)) <| fun K1 =>
  fX6_weeksTo_5 a0 a1 a2 K1 FU 0 0 σ

def fX6_lookAhead_2 (t : Nat) (a1 : Nat) (a2 : Int32) (K1 : FH → Option FH) : Nat → Int32 → FH → Option FH
  | 0, _, _ => none
  | n6 + 1, w3, σ4 =>
    if 30 < w3 then (
      K1 σ4)
    else (
      fxBI (fX6_weeksTo a1 w3 a2 σ4) <| fun (r9 : Int32) (σ10 : FH) =>
      fxG (fx_in w3 31 = true) <|
      fxL (fx_si σ10 (t + 3) (Int32.toNatClampNeg w3) r9) <| fun (σ12 : FH) =>
      fX6_lookAhead_2 t a1 a2 K1 n6 (w3 + 1) σ12)
def fX6_lookAhead (t : Nat) (a1 : Nat) (a2 : Int32) (σ : FH) : Option FH :=
  fxG (LX[t]? = some (6, 0)) <|
  fxG (LX[a1]? = some (5, 0)) <|
  fxL (fun (σ2 : FH) =>
      some σ2) <| fun K1 =>
  fX6_lookAhead_2 t a1 a2 K1 FU 1 σ

def fX6_allows_15 (t : Nat) (a1 : Int32) (σ : FH) (K3 : Option Int32) : Nat → Int32 → Option Int32
  | 0, _ => none
  | n6 + 1, w4 =>
    if (σ.1 t 0) ≤ w4 then (
      K3)
    else (
      fxG (fx_in a1 31 = true) <|
      fxG (fx_in w4 8 = true) <|
      fxL (α := Int32) (if (σ.1 (t + 1) (Int32.toNatClampNeg w4)) < (σ.1 (t + 3) (Int32.toNatClampNeg a1)) then 0 else 1) <| fun (v10 : Int32) =>
      fxG (fx_in w4 8 = true) <|
      if v10 = (σ.1 (t + 2) (Int32.toNatClampNeg w4)) then (
        fX6_allows_15 t a1 σ K3 n6 (w4 + 1))
      else (
        some (0 : Int32)))
def fX6_allows (t : Nat) (a1 : Int32) (σ : FH) : Option Int32 :=
  fxG (LX[t]? = some (6, 0)) <|
  if a1 < 1 then (
    some (0 : Int32))
  else (
    if a1 ≤ 30 then (
      fxL (
          some (1 : Int32)) <| fun K3 =>
      fX6_allows_15 t a1 σ K3 FU 0)
    else (
      some (0 : Int32)))

def fX6_allowedBy_4 (t : Nat) (a1 : Int32) (σ : FH) (K1 : Int32 → Option Int32) : Nat → Int32 → Int32 → Option Int32
  | 0, _, _ => none
  | n6 + 1, w3, w4 =>
    if 60 < w4 then (
      K1 w3)
    else (
      fxG (fx_in (w4 / 2) 31 = true) <|
      if a1 < (σ.1 (t + 3) (Int32.toNatClampNeg (w4 / 2))) then (
        fX6_allowedBy_4 t a1 σ K1 n6 w3 (w4 + 1))
      else (
        fxBP (fX6_allows t (w4 / 2) σ) <| fun (r11 : Int32) =>
        if r11 = 0 then (
          fX6_allowedBy_4 t a1 σ K1 n6 w3 (w4 + 1))
        else (
          fX6_allowedBy_4 t a1 σ K1 n6 (w3 + 1) (w4 + 1))))
def fX6_allowedBy (t : Nat) (a1 : Int32) (σ : FH) : Option Int32 :=
  fxG (LX[t]? = some (6, 0)) <|
  fxL (fun (x2 : Int32) =>
      some x2) <| fun K1 =>
  fX6_allowedBy_4 t a1 σ K1 FU 0 2

def fX6_bestQuestion_14 (t : Nat) (σ : FH) (r2 : Int32) (K4 : Int32 → Option Int32) : Nat → Int32 → Int32 → Int32 → Option Int32
  | 0, _, _, _ => none
  | n10 + 1, w6, w7, w8 =>
    if 30 < w8 then (
      K4 w6)
    else (
      fxBP (fX6_allowedBy t w8 σ) <| fun (r13 : Int32) =>
      fxL (α := Int32) (if r13 < (r2 - r13) then (r2 - r13) else r13) <| fun (v15 : Int32) =>
      if w7 ≤ v15 then (
        fX6_bestQuestion_14 t σ r2 K4 n10 w6 w7 (w8 + 1))
      else (
        fX6_bestQuestion_14 t σ r2 K4 n10 w8 v15 (w8 + 1)))
def fX6_bestQuestion (t : Nat) (σ : FH) : Option Int32 :=
  fxG (LX[t]? = some (6, 0)) <|
  fxBP (fX6_allowedBy t 31 σ) <| fun (r2 : Int32) =>
  fxL (fun (x5 : Int32) =>
      some x5) <| fun K4 =>
  fX6_bestQuestion_14 t σ r2 K4 FU (-1) r2 0

def fX7_begin_40 (t : Nat) (a1 : Nat) (K3 : FH → Option FH) : Nat → Int32 → FH → Option FH
  | 0, _, _ => none
  | n11 + 1, w8, σ9 =>
    if 5 ≤ w8 then (
      K3 σ9)
    else (
      fxBP (fX5_hasParty a1 w8 σ9) <| fun (r14 : Int32) =>
      fxL (fun (y17 : Int32) =>
          fxG (fx_in w8 5 = true) <|
          fxL (fx_si σ9 (t + 2) (Int32.toNatClampNeg w8) y17) <| fun (σ19 : FH) =>
          fX7_begin_40 t a1 K3 n11 (w8 + 1) σ19) <| fun J16 =>
      if r14 = 0 then (
        J16 0)
      else (
        fxG (fx_in w8 5 = true) <|
        J16 (σ9.1 (a1 + 6) (Int32.toNatClampNeg w8))))
def fX7_begin_2 (t : Nat) (a1 : Nat) (K1 : FH → Option FH) : Nat → Int32 → FH → Option FH
  | 0, _, _ => none
  | n26 + 1, w23, σ24 =>
    if 6 ≤ w23 then (
      K1 σ24)
    else (
      fxBP (fX5_hasWare a1 w23 σ24) <| fun (r29 : Int32) =>
      fxL (fun (y32 : Int32) =>
          fxG (fx_in w23 6 = true) <|
          fxL (fx_si σ24 (t + 1) (Int32.toNatClampNeg w23) y32) <| fun (σ34 : FH) =>
          fX7_begin_2 t a1 K1 n26 (w23 + 1) σ34) <| fun J31 =>
      if r29 = 0 then (
        J31 0)
      else (
        fxG (fx_in w23 6 = true) <|
        J31 (σ24.1 (a1 + 4) (Int32.toNatClampNeg w23))))
def fX7_begin (t : Nat) (a1 : Nat) (σ : FH) : Option FH :=
  fxG (LX[t]? = some (7, 0)) <|
  fxG (LX[a1]? = some (5, 0)) <|
  fxL (fun (σ2 : FH) =>
      fxL (fun (σ4 : FH) =>
          fxL (fx_si σ4 t 2 0) <| fun (σ5 : FH) =>
          fxL (fx_si σ5 t 3 0) <| fun (σ6 : FH) =>
          fxL (fx_si σ6 t 4 0) <| fun (σ7 : FH) =>
          some σ7) <| fun K3 =>
      fX7_begin_40 t a1 K3 FU 0 σ2) <| fun K1 =>
  fX7_begin_2 t a1 K1 FU 0 σ

def fX7_workOn (t : Nat) (a1 : Nat) (a2 : Int32) (a3 : Int32) (σ : FH) : Option (Int32 × FH) :=
  fxG (LX[t]? = some (7, 0)) <|
  fxG (LX[a1]? = some (5, 0)) <|
  fxBP (fX5_hasWare a1 a2 σ) <| fun (r2 : Int32) =>
  if r2 = 0 then (
    some ((0 : Int32), σ))
  else (
    fxBP (fX5_halfOf a1 a2 σ) <| fun (r6 : Int32) =>
    fxG (fx_in a2 6 = true) <|
    fxL (α := Int32) ((σ.1 (t + 1) (Int32.toNatClampNeg a2)) + a3) <| fun (v9 : Int32) =>
    fxG (fx_in a2 6 = true) <|
    fxL (fx_si σ (t + 1) (Int32.toNatClampNeg a2) (if r6 < v9 then r6 else v9)) <| fun (σ11 : FH) =>
    fxL (α := Int32) ((if 0 < (v9 - r6) then (v9 - r6) else 0) * (σ11.1 a1 9)) <| fun (v12 : Int32) =>
    fxL (fx_si σ11 t 3 ((σ11.1 t 3) + v12)) <| fun (σ13 : FH) =>
    some (v12, σ13))

def fX7_takeOff (t : Nat) (a1 : Int32) (a2 : Int32) (σ : FH) : Option FH :=
  fxG (LX[t]? = some (7, 0)) <|
  if a1 < 0 then (
    some σ)
  else (
    if 6 ≤ a1 then (
      some σ)
    else (
      fxG (fx_in a1 6 = true) <|
      fxG (fx_in a1 6 = true) <|
      fxL (fx_si σ (t + 1) (Int32.toNatClampNeg a1) (if 0 < ((σ.1 (t + 1) (Int32.toNatClampNeg a1)) - a2) then ((σ.1 (t + 1) (Int32.toNatClampNeg a1)) - a2) else 0)) <| fun (σ5 : FH) =>
      some σ5))

def fX7_isHalf (t : Nat) (a1 : Nat) (a2 : Int32) (σ : FH) : Option Int32 :=
  fxG (LX[t]? = some (7, 0)) <|
  fxG (LX[a1]? = some (5, 0)) <|
  fxG (fx_in a2 6 = true) <|
  fxBP (fX5_halfOf a1 a2 σ) <| fun (r3 : Int32) =>
  fxL (α := Int32) (if (σ.1 (t + 1) (Int32.toNatClampNeg a2)) < r3 then 0 else 1) <| fun (v5 : Int32) =>
  fxG (fx_bo v5 = true) <|
  some v5

def fX7_canJoin (t : Nat) (a1 : Nat) (a2 : Int32) (a3 : Int32) (σ : FH) : Option Int32 :=
  fxG (LX[t]? = some (7, 0)) <|
  fxG (LX[a1]? = some (5, 0)) <|
  fxBP (fX5_couldPair a1 a2 a3 σ) <| fun (r2 : Int32) =>
  if r2 = 0 then (
    some (0 : Int32))
  else (
    fxBP (fX7_isHalf t a1 a2 σ) <| fun (r6 : Int32) =>
    if r6 = 0 then (
      some (0 : Int32))
    else (
      fxBP (fX7_isHalf t a1 a3 σ) <| fun (r10 : Int32) =>
      if r10 = 0 then (
        some (0 : Int32))
      else (
        some (1 : Int32))))

def fX7_arrest (t : Nat) (a1 : Nat) (a2 : Int32) (a3 : Int32) (σ : FH) : Option FH :=
  fxG (LX[t]? = some (7, 0)) <|
  fxG (LX[a1]? = some (5, 0)) <|
  fxG (fx_in a2 6 = true) <|
  fxL (fx_si σ (t + 1) (Int32.toNatClampNeg a2) 0) <| fun (σ2 : FH) =>
  fxG (fx_in a3 6 = true) <|
  fxL (fx_si σ2 (t + 1) (Int32.toNatClampNeg a3) 0) <| fun (σ4 : FH) =>
  fxL (fx_si σ4 t 3 ((σ4.1 t 3) + (10 * (σ4.1 a1 9)))) <| fun (σ5 : FH) =>
  fxL (fx_si σ5 t 4 ((σ5.1 t 4) + 1)) <| fun (σ6 : FH) =>
  some σ6

def fX7_canLend (t : Nat) (a1 : Nat) (a2 : Int32) (a3 : Int32) (a4 : Int32) (σ : FH) : Option Int32 :=
  fxG (LX[t]? = some (7, 0)) <|
  fxG (LX[a1]? = some (5, 0)) <|
  fxBP (fX5_hasParty a1 a2 σ) <| fun (r2 : Int32) =>
  if r2 = 0 then (
    some (0 : Int32))
  else (
    fxBP (fX5_hasParty a1 a3 σ) <| fun (r6 : Int32) =>
    if r6 = 0 then (
      some (0 : Int32))
    else (
      if a2 = a3 then (
        some (0 : Int32))
      else (
        fxG (fx_in a2 5 = true) <|
        if (σ.1 (t + 2) (Int32.toNatClampNeg a2)) < a4 then (
          some (0 : Int32))
        else (
          fxG (fx_in a3 5 = true) <|
          if 99 < ((σ.1 (t + 2) (Int32.toNatClampNeg a3)) + a4) then (
            some (0 : Int32))
          else (
            some (1 : Int32))))))

def fX7_moveSeats (t : Nat) (a1 : Int32) (a2 : Int32) (a3 : Int32) (σ : FH) : Option FH :=
  fxG (LX[t]? = some (7, 0)) <|
  fxG (fx_in a1 5 = true) <|
  fxG (fx_in a1 5 = true) <|
  fxL (fx_si σ (t + 2) (Int32.toNatClampNeg a1) ((σ.1 (t + 2) (Int32.toNatClampNeg a1)) - a3)) <| fun (σ3 : FH) =>
  fxG (fx_in a2 5 = true) <|
  fxG (fx_in a2 5 = true) <|
  fxL (fx_si σ3 (t + 2) (Int32.toNatClampNeg a2) ((σ3.1 (t + 2) (Int32.toNatClampNeg a2)) + a3)) <| fun (σ6 : FH) =>
  some σ6

def fX7_votesFor_5 (t : Nat) (a1 : Nat) (a2 : Int32) (σ : FH) (K1 : Int32 → Option Int32) : Nat → Int32 → Int32 → Option Int32
  | 0, _, _ => none
  | n6 + 1, w3, w4 =>
    if (σ.1 a1 5) ≤ w4 then (
      K1 w3)
    else (
      fxBP (fX5_isFor a1 w4 a2 σ) <| fun (r9 : Int32) =>
      if r9 = 0 then (
        fX7_votesFor_5 t a1 a2 σ K1 n6 w3 (w4 + 1))
      else (
        fxG (fx_in w4 5 = true) <|
        fxL (α := Int32) (w3 + (σ.1 (t + 2) (Int32.toNatClampNeg w4))) <| fun (v13 : Int32) =>
        fX7_votesFor_5 t a1 a2 σ K1 n6 v13 (w4 + 1)))
def fX7_votesFor (t : Nat) (a1 : Nat) (a2 : Int32) (σ : FH) : Option Int32 :=
  fxG (LX[t]? = some (7, 0)) <|
  fxG (LX[a1]? = some (5, 0)) <|
  fxL (fun (x2 : Int32) =>
      some x2) <| fun K1 =>
  fX7_votesFor_5 t a1 a2 σ K1 FU 0 0

def fX7_passWeek_4 (t : Nat) (a1 : Nat) (K1 : Int32 → FH → Option (Int32 × FH)) : Nat → Int32 → Int32 → FH → Option (Int32 × FH)
  | 0, _, _, _ => none
  | n9 + 1, w5, w6, σ7 =>
    if (σ7.1 a1 0) ≤ w6 then (
      K1 w5 σ7)
    else (
      fxBP (fX7_votesFor t a1 w6 σ7) <| fun (r12 : Int32) =>
      fxG (fx_in w6 6 = true) <|
      fxG (fx_in w6 6 = true) <|
      fxBP (fX5_halfOf a1 w6 σ7) <| fun (r17 : Int32) =>
      fxBI (fX5_weekWork a1 (σ7.1 (a1 + 2) (Int32.toNatClampNeg w6)) (σ7.1 (t + 1) (Int32.toNatClampNeg w6)) r17 r12 (σ7.1 t 2) σ7) <| fun (r20 : Int32) (σ21 : FH) =>
      fxBI (fX7_workOn t a1 w6 r20 σ21) <| fun (r23 : Int32) (σ24 : FH) =>
      fxL (α := Int32) (w5 + r23) <| fun (v25 : Int32) =>
      fX7_passWeek_4 t a1 K1 n9 v25 (w6 + 1) σ24)
def fX7_passWeek (t : Nat) (a1 : Nat) (σ : FH) : Option (Int32 × FH) :=
  fxG (LX[t]? = some (7, 0)) <|
  fxG (LX[a1]? = some (5, 0)) <|
  fxL (fun (x2 : Int32) (σ3 : FH) =>
      fxL (fx_si σ3 t 2 ((σ3.1 t 2) + 1)) <| fun (σ4 : FH) =>
      some (x2, σ4)) <| fun K1 =>
  fX7_passWeek_4 t a1 K1 FU 0 0 σ

def fX7_follow (t : Nat) (a1 : Nat) (a2 : Nat) (a3 : Int32) (σ : FH) : Option (Int32 × FH) :=
  fxG (LX[t]? = some (7, 0)) <|
  fxG (LX[a1]? = some (5, 0)) <|
  fxG (LX[a2]? = some (8, 0)) <|
  fxG (fx_in a3 40 = true) <|
  fxL (α := Int32) (σ.1 (a2 + 2) (Int32.toNatClampNeg a3)) <| fun (v2 : Int32) =>
  fxG (fx_in a3 40 = true) <|
  fxL (α := Int32) (σ.1 (a2 + 3) (Int32.toNatClampNeg a3)) <| fun (v4 : Int32) =>
  fxG (fx_in a3 40 = true) <|
  fxL (α := Int32) (σ.1 (a2 + 4) (Int32.toNatClampNeg a3)) <| fun (v6 : Int32) =>
  fxG (fx_in a3 40 = true) <|
  if (σ.1 (a2 + 1) (Int32.toNatClampNeg a3)) = 0 then (
    fxBI (fX7_workOn t a1 v2 v6 σ) <| fun (r10 : Int32) (σ11 : FH) =>
    some ((1 : Int32), σ11)) else
  if (σ.1 (a2 + 1) (Int32.toNatClampNeg a3)) = 1 then (
    fxBV (fX7_takeOff t v2 v6 σ) <| fun (σ15 : FH) =>
    some ((1 : Int32), σ15)) else
  if (σ.1 (a2 + 1) (Int32.toNatClampNeg a3)) = 2 then (
    fxBP (fX7_canJoin t a1 v2 v4 σ) <| fun (r18 : Int32) =>
    if r18 = 0 then (
      some ((0 : Int32), σ))
    else (
      fxBV (fX7_arrest t a1 v2 v4 σ) <| fun (σ23 : FH) =>
      some ((1 : Int32), σ23))) else
  if (σ.1 (a2 + 1) (Int32.toNatClampNeg a3)) = 3 then (
    fxBP (fX7_canLend t a1 v2 v4 v6 σ) <| fun (r26 : Int32) =>
    if r26 = 0 then (
      some ((0 : Int32), σ))
    else (
      fxBV (fX7_moveSeats t v2 v4 v6 σ) <| fun (σ31 : FH) =>
      some ((1 : Int32), σ31))) else
  (
    fxBI (fX7_passWeek t a1 σ) <| fun (r33 : Int32) (σ34 : FH) =>
    some ((1 : Int32), σ34))

def fX7_allSeats_4 (t : Nat) (σ : FH) (K1 : Int32 → Option Int32) : Nat → Int32 → Int32 → Option Int32
  | 0, _, _ => none
  | n6 + 1, w3, w4 =>
    if 5 ≤ w4 then (
      K1 w3)
    else (
      fxG (fx_in w4 5 = true) <|
      fxL (α := Int32) (w3 + (σ.1 (t + 2) (Int32.toNatClampNeg w4))) <| fun (v9 : Int32) =>
      fX7_allSeats_4 t σ K1 n6 v9 (w4 + 1))
def fX7_allSeats (t : Nat) (σ : FH) : Option Int32 :=
  fxG (LX[t]? = some (7, 0)) <|
  fxL (fun (x2 : Int32) =>
      some x2) <| fun K1 =>
  fX7_allSeats_4 t σ K1 FU 0 0

def fX7_allDone_4 (t : Nat) (σ : FH) (K1 : Int32 → Option Int32) : Nat → Int32 → Int32 → Option Int32
  | 0, _, _ => none
  | n6 + 1, w3, w4 =>
    if 6 ≤ w4 then (
      K1 w3)
    else (
      fxG (fx_in w4 6 = true) <|
      fxL (α := Int32) (w3 + (σ.1 (t + 1) (Int32.toNatClampNeg w4))) <| fun (v9 : Int32) =>
      fX7_allDone_4 t σ K1 n6 v9 (w4 + 1))
def fX7_allDone (t : Nat) (σ : FH) : Option Int32 :=
  fxG (LX[t]? = some (7, 0)) <|
  fxL (fun (x2 : Int32) =>
      some x2) <| fun K1 =>
  fX7_allDone_4 t σ K1 FU 0 0

def fX7_halfDone_4 (t : Nat) (a1 : Nat) (σ : FH) (K1 : Int32 → Option Int32) : Nat → Int32 → Int32 → Option Int32
  | 0, _, _ => none
  | n6 + 1, w3, w4 =>
    if (σ.1 a1 0) ≤ w4 then (
      K1 w3)
    else (
      fxBP (fX7_isHalf t a1 w4 σ) <| fun (r9 : Int32) =>
      fxL (α := Int32) (if r9 = 0 then w3 else (w3 ||| (1 <<< (w4 &&& 31)))) <| fun (v11 : Int32) =>
      fX7_halfDone_4 t a1 σ K1 n6 v11 (w4 + 1))
def fX7_halfDone (t : Nat) (a1 : Nat) (σ : FH) : Option Int32 :=
  fxG (LX[t]? = some (7, 0)) <|
  fxG (LX[a1]? = some (5, 0)) <|
  fxL (fun (x2 : Int32) =>
      some x2) <| fun K1 =>
  fX7_halfDone_4 t a1 σ K1 FU 0 0

def fX7_lackOf_5 (t : Nat) (a1 : Nat) (a2 : Int32) (σ : FH) (K1 : Int32 → Option Int32) : Nat → Int32 → Int32 → Option Int32
  | 0, _, _ => none
  | n6 + 1, w3, w4 =>
    if (σ.1 a1 0) ≤ w4 then (
      K1 w3)
    else (
      if ((a2 >>> (w4 &&& 31)) &&& 1) = 1 then (
        fxBP (fX5_halfOf a1 w4 σ) <| fun (r10 : Int32) =>
        fxG (fx_in w4 6 = true) <|
        fxL (α := Int32) (w3 + (r10 - (σ.1 (t + 1) (Int32.toNatClampNeg w4)))) <| fun (v13 : Int32) =>
        fX7_lackOf_5 t a1 a2 σ K1 n6 v13 (w4 + 1))
      else (
        fX7_lackOf_5 t a1 a2 σ K1 n6 w3 (w4 + 1)))
def fX7_lackOf (t : Nat) (a1 : Nat) (a2 : Int32) (σ : FH) : Option Int32 :=
  fxG (LX[t]? = some (7, 0)) <|
  fxG (LX[a1]? = some (5, 0)) <|
  fxL (fun (x2 : Int32) =>
      some x2) <| fun K1 =>
  fX7_lackOf_5 t a1 a2 σ K1 FU 0 0

def fX11_standing (a0 : Int32) (a1 : Int32) (σ : FH) : Option Int32 :=
  if (2 * a0) ≤ a1 then (
    fxL (α := Int32) (if a1 ≤ 0 then 0 else (if (2 * a0) = a1 then 1 else 0)) <| fun (v2 : Int32) =>
    some v2)
  else (
    some (2 : Int32))

def fX7_wouldHalve (t : Nat) (a1 : Nat) (a2 : Int32) (a3 : Int32) (a4 : Int32) (a5 : Int32) (σ : FH) : Option Int32 :=
  fxG (LX[t]? = some (7, 0)) <|
  fxG (LX[a1]? = some (5, 0)) <|
  fxBP (fX7_canLend t a1 a3 a4 a5 σ) <| fun (r2 : Int32) =>
  if r2 = 0 then (
    some (0 : Int32))
  else (
    fxBP (fX7_votesFor t a1 a2 σ) <| fun (r6 : Int32) =>
    fxBP (fX5_isFor a1 a3 a2 σ) <| fun (r9 : Int32) =>
    fxL (α := Int32) (if r9 = 0 then r6 else (r6 - a5)) <| fun (v11 : Int32) =>
    fxBP (fX5_isFor a1 a4 a2 σ) <| fun (r15 : Int32) =>
    fxL (α := Int32) (if r15 = 0 then v11 else (v11 + a5)) <| fun (v17 : Int32) =>
    fxBP (fX7_allSeats t σ) <| fun (r21 : Int32) =>
    fxBP (fX11_standing v17 r21 σ) <| fun (r24 : Int32) =>
    fxL (α := Int32) (if r24 = 1 then 1 else 0) <| fun (v26 : Int32) =>
    fxG (fx_bo v26 = true) <|
    some v26)

def fX9_putSign (a1 : Int32) (σ : FH) : Option FH :=
  fxL (α := Int32) (if a1 = 10 then 1 else (if a1 < 32 then 0 else (if 126 < a1 then 0 else 1))) <| fun (v1 : Int32) =>
  if v1 = 0 then (
    some σ)
  else (
    if (σ.1 3 1) < 0 then (
      some σ)
    else (
      if 1000 ≤ (σ.1 3 1) then (
        some σ)
      else (
        fxG (fx_in (σ.1 3 1) 1000 = true) <|
        fxL (fx_si σ 4 (Int32.toNatClampNeg (σ.1 3 1)) (vp_nar .char a1)) <| fun (σ10 : FH) =>
        fxL (fx_si σ10 3 1 ((σ10.1 3 1) + 1)) <| fun (σ11 : FH) =>
        some σ11)))

def fX9_putBytes_3 (a1 : Int64) (K1 : FH → Option FH) : Nat → Int32 → FH → Option FH
  | 0, _, _ => none
  | n6 + 1, w3, σ4 =>
    if w3 < 0 then (
      K1 σ4)
    else (
      fxBV (fX9_putSign ((Int32.toUInt32 (Int64.toInt32 (((Int64.toUInt64 a1 >>> ((Int32.toInt64 w3).toUInt64 &&& Int64.toUInt64 63)).toInt64) &&& 255)) % 65536).toInt32) σ4) <| fun (σ10 : FH) =>
      fX9_putBytes_3 a1 K1 n6 (w3 + (-8)) σ10)
def fX9_putBytes (a1 : Int64) (σ : FH) : Option FH :=
  fxL (fun (σ2 : FH) =>
      some σ2) <| fun K1 =>
  fX9_putBytes_3 a1 K1 FU 56 σ

def fX11_feed (a1 : Int64) (a3 : Int64) (a5 : Int64) (σ : FH) : Option (Int32 × FH) :=
  fxBV (fX9_putBytes a1 σ) <| fun (σ3 : FH) =>
  fxBV (fX9_putBytes a3 σ3) <| fun (σ6 : FH) =>
  fxBV (fX9_putBytes a5 σ6) <| fun (σ9 : FH) =>
  some ((σ9.1 3 1), σ9)

def fX11_settle_52 (K13 : FH → Option FH) : Nat → Int32 → FH → Option FH
  | 0, _, _ => none
  | n18 + 1, w15, σ16 =>
    if 4 ≤ w15 then (
      K13 σ16)
    else (
      fxG (fx_in w15 4 = true) <|
      fxL (fx_si σ16 (99 + 13 * (Int32.toNatClampNeg w15)) 0 0) <| fun (σ21 : FH) =>
      fX11_settle_52 K13 n18 (w15 + 1) σ21)
def fX11_settle  (σ : FH) : Option FH :=
  fxG (LX[(σ.2.2 2)]? = some (5, 0)) <|
  fxG (LX[(σ.2.2 3)]? = some (5, 0)) <|
  fxL (fx_sr σ 2 (σ.2.2 3)) <| fun (σ3 : FH) =>
  fxL (fx_sr σ3 3 (σ.2.2 2)) <| fun (σ4 : FH) =>
  fxG (LX[(σ4.2.2 2)]? = some (5, 0)) <|
  fxBV (fX7_begin 7 (σ4.2.2 2) σ4) <| fun (σ8 : FH) =>
  fxG (LX[(σ8.2.2 4)]? = some (8, 0)) <|
  fxL (fx_si σ8 (σ8.2.2 4) 0 0) <| fun (σ10 : FH) =>
  fxL (fx_si σ10 13 0 0) <| fun (σ11 : FH) =>
  fxL (fx_si σ11 0 11 0) <| fun (σ12 : FH) =>
  fxL (fun (σ14 : FH) =>
      some σ14) <| fun K13 =>
  fX11_settle_52 K13 FU 0 σ12

def fX11_republic  (σ : FH) : Option (Int32 × FH) :=
  fxG (LX[(σ.2.2 3)]? = some (5, 0)) <|
  fxBI (fX4_readRepublic (σ.2.2 3) σ) <| fun (r3 : Int32) (σ4 : FH) =>
  if r3 = 0 then (
    fxBV (fX11_settle σ4) <| fun (σ8 : FH) =>
    some (r3, σ8))
  else (
    some (r3, σ4))

def fX11_term  (σ : FH) : Option (Int32 × FH) :=
  fxG (LX[(σ.2.2 2)]? = some (5, 0)) <|
  fxG (LX[(σ.2.2 5)]? = some (8, 0)) <|
  fxBI (fX4_readTerm (σ.2.2 2) (σ.2.2 5) σ) <| fun (r4 : Int32) (σ5 : FH) =>
  if r4 = 0 then (
    fxG (LX[(σ5.2.2 4)]? = some (8, 0)) <|
    fxG (LX[(σ5.2.2 5)]? = some (8, 0)) <|
    fxL (fx_sr σ5 4 (σ5.2.2 5)) <| fun (σ9 : FH) =>
    fxL (fx_sr σ9 5 (σ5.2.2 4)) <| fun (σ10 : FH) =>
    some (r4, σ10))
  else (
    some (r4, σ5))

def fX11_ware (a1 : Int32) (a2 : Int32) (σ : FH) : Option Int32 :=
  fxG (LX[(σ.2.2 2)]? = some (5, 0)) <|
  fxBP (fX5_hasWare (σ.2.2 2) a1 σ) <| fun (r3 : Int32) =>
  if r3 = 0 then (
    some ((-1) : Int32))
  else (
    if a2 = 0 then (
      fxG (LX[(σ.2.2 2)]? = some (5, 0)) <|
      fxG (fx_in a1 6 = true) <|
      some (σ.1 ((σ.2.2 2) + 2) (Int32.toNatClampNeg a1))) else
    if a2 = 1 then (
      fxG (LX[(σ.2.2 2)]? = some (5, 0)) <|
      fxG (fx_in a1 6 = true) <|
      some (σ.1 ((σ.2.2 2) + 3) (Int32.toNatClampNeg a1))) else
    if a2 = 2 then (
      fxG (fx_in a1 6 = true) <|
      some (σ.1 8 (Int32.toNatClampNeg a1))) else
    if a2 = 3 then (
      fxG (LX[(σ.2.2 2)]? = some (5, 0)) <|
      fxBP (fX5_halfOf (σ.2.2 2) a1 σ) <| fun (r17 : Int32) =>
      some r17) else
    if a2 = 4 then (
      fxG (LX[(σ.2.2 2)]? = some (5, 0)) <|
      fxBP (fX7_votesFor 7 (σ.2.2 2) a1 σ) <| fun (r22 : Int32) =>
      some r22) else
    if a2 = 5 then (
      fxG (LX[(σ.2.2 2)]? = some (5, 0)) <|
      fxBP (fX7_votesFor 7 (σ.2.2 2) a1 σ) <| fun (r27 : Int32) =>
      fxBP (fX7_allSeats 7 σ) <| fun (r30 : Int32) =>
      fxBP (fX11_standing r27 r30 σ) <| fun (r33 : Int32) =>
      some r33) else
    (
      some ((-1) : Int32)))

def fX11_party (a1 : Int32) (a2 : Int32) (σ : FH) : Option Int32 :=
  fxG (LX[(σ.2.2 2)]? = some (5, 0)) <|
  fxBP (fX5_hasParty (σ.2.2 2) a1 σ) <| fun (r3 : Int32) =>
  if r3 = 0 then (
    some ((-1) : Int32))
  else (
    if a2 = 0 then (
      fxG (fx_in a1 5 = true) <|
      some (σ.1 9 (Int32.toNatClampNeg a1))) else
    if a2 = 1 then (
      fxG (LX[(σ.2.2 2)]? = some (5, 0)) <|
      fxG (fx_in a1 5 = true) <|
      some (σ.1 ((σ.2.2 2) + 7) (Int32.toNatClampNeg a1))) else
    (
      some ((-1) : Int32)))

def fX11_isLot (a0 : Int32) (σ : FH) : Option Int32 :=
  fxL (α := Int32) (if a0 < 1 then 0 else (if 20 < a0 then 0 else 1)) <| fun (v1 : Int32) =>
  fxG (fx_bo v1 = true) <|
  some v1

def fJ9_floorMod_7cf53 (a0 : Int32) (a1 : Int32) (σ : FH) : Option Int32 :=
  fxG (¬ a1 = 0) <|
  fxL (α := Int32) (a0 - a0 / a1 * a1) <| fun (v2 : Int32) =>
  if 0 ≤ (a0 ^^^ a1) then (
    some v2)
  else (
    if v2 = 0 then (
      some v2)
    else (
      some (v2 + a1)))

def fX11_keepPast  (σ : FH) : Option FH :=
  fxG (fx_in (σ.1 0 12) 16 = true) <|
  fxBV (fX7_copyOf (51 + 3 * (Int32.toNatClampNeg (σ.1 0 12))) 7 σ) <| fun (σ4 : FH) =>
  fxBP (fJ9_floorMod_7cf53 ((σ4.1 0 12) + 1) 16 σ4) <| fun (r6 : Int32) =>
  fxL (fx_si σ4 0 12 r6) <| fun (σ8 : FH) =>
  fxL (fx_si σ8 0 11 (if 16 < ((σ8.1 0 11) + 1) then 16 else ((σ8.1 0 11) + 1))) <| fun (σ9 : FH) =>
  some σ9

def fX11_work (a1 : Int32) (a2 : Int32) (σ : FH) : Option (Int32 × FH) :=
  fxG (LX[(σ.2.2 2)]? = some (5, 0)) <|
  fxBP (fX5_hasWare (σ.2.2 2) a1 σ) <| fun (r3 : Int32) =>
  if r3 = 0 then (
    some (((-1) : Int32), σ))
  else (
    fxBP (fX11_isLot a2 σ) <| fun (r7 : Int32) =>
    if r7 = 0 then (
      some (((-1) : Int32), σ))
    else (
      fxBV (fX11_keepPast σ) <| fun (σ12 : FH) =>
      fxG (LX[(σ12.2.2 2)]? = some (5, 0)) <|
      fxBI (fX7_workOn 7 (σ12.2.2 2) a1 a2 σ12) <| fun (r15 : Int32) (σ16 : FH) =>
      some (r15, σ16)))

def fX11_stop (a1 : Int32) (a2 : Int32) (σ : FH) : Option (Int32 × FH) :=
  fxG (LX[(σ.2.2 2)]? = some (5, 0)) <|
  fxBP (fX5_hasWare (σ.2.2 2) a1 σ) <| fun (r3 : Int32) =>
  if r3 = 0 then (
    some (((-1) : Int32), σ))
  else (
    fxBP (fX11_isLot a2 σ) <| fun (r7 : Int32) =>
    if r7 = 0 then (
      some (((-1) : Int32), σ))
    else (
      fxBV (fX11_keepPast σ) <| fun (σ12 : FH) =>
      fxBV (fX7_takeOff 7 a1 a2 σ12) <| fun (σ15 : FH) =>
      fxG (fx_in a1 6 = true) <|
      some ((σ15.1 8 (Int32.toNatClampNeg a1)), σ15)))

def fX11_join (a1 : Int32) (a2 : Int32) (σ : FH) : Option (Int32 × FH) :=
  fxG (LX[(σ.2.2 2)]? = some (5, 0)) <|
  fxBP (fX7_canJoin 7 (σ.2.2 2) a1 a2 σ) <| fun (r3 : Int32) =>
  if r3 = 0 then (
    some ((0 : Int32), σ))
  else (
    fxBV (fX11_keepPast σ) <| fun (σ8 : FH) =>
    fxG (LX[(σ8.2.2 2)]? = some (5, 0)) <|
    fxBV (fX7_arrest 7 (σ8.2.2 2) a1 a2 σ8) <| fun (σ12 : FH) =>
    some ((1 : Int32), σ12))

def fX11_lend (a1 : Int32) (a2 : Int32) (a3 : Int32) (σ : FH) : Option (Int32 × FH) :=
  fxBP (fX11_isLot a3 σ) <| fun (r2 : Int32) =>
  if r2 = 0 then (
    some ((0 : Int32), σ))
  else (
    fxG (LX[(σ.2.2 2)]? = some (5, 0)) <|
    fxBP (fX7_canLend 7 (σ.2.2 2) a1 a2 a3 σ) <| fun (r7 : Int32) =>
    if r7 = 0 then (
      some ((0 : Int32), σ))
    else (
      fxBV (fX11_keepPast σ) <| fun (σ12 : FH) =>
      fxBV (fX7_moveSeats 7 a1 a2 a3 σ12) <| fun (σ15 : FH) =>
      some ((1 : Int32), σ15)))

def fX11_week  (σ : FH) : Option (Int32 × FH) :=
  fxBV (fX11_keepPast σ) <| fun (σ3 : FH) =>
  fxG (LX[(σ3.2.2 2)]? = some (5, 0)) <|
  fxBI (fX7_passWeek 7 (σ3.2.2 2) σ3) <| fun (r6 : Int32) (σ7 : FH) =>
  some (r6, σ7)

def fX11_undo  (σ : FH) : Option (Int32 × FH) :=
  if 0 < (σ.1 0 11) then (
    fxL (fx_si σ 0 11 ((σ.1 0 11) - 1)) <| fun (σ2 : FH) =>
    fxBP (fJ9_floorMod_7cf53 ((σ2.1 0 12) - 1) 16 σ2) <| fun (r4 : Int32) =>
    fxL (fx_si σ2 0 12 r4) <| fun (σ6 : FH) =>
    fxG (fx_in (σ6.1 0 12) 16 = true) <|
    fxBV (fX7_copyOf 7 (51 + 3 * (Int32.toNatClampNeg (σ6.1 0 12))) σ6) <| fun (σ10 : FH) =>
    some ((1 : Int32), σ10))
  else (
    some ((0 : Int32), σ))

def fX11_judged_30 (K7 : Int32 → Int32 → FH → Option (Int32 × FH)) : Nat → Int32 → Int32 → Int32 → FH → Option (Int32 × FH)
  | 0, _, _, _, _ => none
  | n20 + 1, w15, w16, w17, σ18 =>
    fxG (LX[(σ18.2.2 4)]? = some (8, 0)) <|
    if (σ18.1 (σ18.2.2 4) 0) ≤ w17 then (
      K7 w15 w16 σ18)
    else (
      fxL (α := Int32) (σ18.1 10 3) <| fun (v23 : Int32) =>
      fxG (LX[(σ18.2.2 2)]? = some (5, 0)) <|
      fxG (LX[(σ18.2.2 4)]? = some (8, 0)) <|
      fxBI (fX7_follow 10 (σ18.2.2 2) (σ18.2.2 4) w17 σ18) <| fun (r27 : Int32) (σ28 : FH) =>
      fxL (α := Int32) (if r27 = 0 then (if w15 = (-1) then w17 else w15) else w15) <| fun (v29 : Int32) =>
      fxL (α := Int32) (if (σ28.1 10 3) ≤ v23 then w16 else (if w16 = (-1) then w17 else w16)) <| fun (v33 : Int32) =>
      fX11_judged_30 K7 n20 v29 v33 (w17 + 1) σ28)
def fX11_judged (a1 : Int32) (σ : FH) : Option (Int32 × FH) :=
  if a1 < 0 then (
    some (((-2) : Int32), σ))
  else (
    if a1 ≤ 2 then (
      fxG (LX[(σ.2.2 2)]? = some (5, 0)) <|
      fxBV (fX7_begin 10 (σ.2.2 2) σ) <| fun (σ6 : FH) =>
      fxL (fun (x8 : Int32) (x9 : Int32) (σ10 : FH) =>
          fxL (α := Int32) (if a1 = 0 then x8 else (if a1 = 1 then x9 else (σ10.1 10 3))) <| fun (v11 : Int32) =>
          some (v11, σ10)) <| fun K7 =>
      fX11_judged_30 K7 FU (-1) (-1) 0 σ6)
    else (
      some (((-2) : Int32), σ)))

def fX11_weeksToHalf_36 (a1 : Int32) (r3 : Int32) (r7 : Int32) (K11 : FH → Option (Int32 × FH)) : Nat → Int32 → Int32 → FH → Option (Int32 × FH)
  | 0, _, _, _ => none
  | n17 + 1, w13, w14, σ15 =>
    if 60 < w14 then (
      K11 σ15)
    else (
      if w13 < r3 then (
        fxG (LX[(σ15.2.2 2)]? = some (5, 0)) <|
        fxG (LX[(σ15.2.2 2)]? = some (5, 0)) <|
        fxG (fx_in a1 6 = true) <|
        fxBI (fX5_weekWork (σ15.2.2 2) (σ15.1 ((σ15.2.2 2) + 2) (Int32.toNatClampNeg a1)) w13 r3 r7 ((σ15.1 7 2) + w14) σ15) <| fun (r24 : Int32) (σ25 : FH) =>
        fxL (α := Int32) (w13 + r24) <| fun (v26 : Int32) =>
        fX11_weeksToHalf_36 a1 r3 r7 K11 n17 v26 (w14 + 1) σ25)
      else (
        some (w14, σ15)))
def fX11_weeksToHalf (a1 : Int32) (σ : FH) : Option (Int32 × FH) :=
  fxG (LX[(σ.2.2 2)]? = some (5, 0)) <|
  fxBP (fX5_halfOf (σ.2.2 2) a1 σ) <| fun (r3 : Int32) =>
  fxG (LX[(σ.2.2 2)]? = some (5, 0)) <|
  fxBP (fX7_votesFor 7 (σ.2.2 2) a1 σ) <| fun (r7 : Int32) =>
  fxG (fx_in a1 6 = true) <|
  fxL (α := Int32) (σ.1 8 (Int32.toNatClampNeg a1)) <| fun (v10 : Int32) =>
  fxL (fun (σ12 : FH) =>
      some (((-1) : Int32), σ12)) <| fun K11 =>
  fX11_weeksToHalf_36 a1 r3 r7 K11 FU v10 0 σ

def fX11_when (a1 : Int32) (σ : FH) : Option (Int32 × FH) :=
  fxG (LX[(σ.2.2 2)]? = some (5, 0)) <|
  fxBP (fX5_hasWare (σ.2.2 2) a1 σ) <| fun (r3 : Int32) =>
  if r3 = 0 then (
    some (((-1) : Int32), σ))
  else (
    fxBI (fX11_weeksToHalf a1 σ) <| fun (r7 : Int32) (σ8 : FH) =>
    some (r7, σ8))

def fX11_caught_49 (a1 : Int32) (r8 : Int32) (r12 : Int32) (K16 : FH → Option (Int32 × FH)) : Nat → Int32 → Int32 → FH → Option (Int32 × FH)
  | 0, _, _, _ => none
  | n22 + 1, w18, w19, σ20 =>
    if 60 < w19 then (
      K16 σ20)
    else (
      fxG (LX[(σ20.2.2 2)]? = some (5, 0)) <|
      fxG (LX[(σ20.2.2 2)]? = some (5, 0)) <|
      fxG (fx_in a1 6 = true) <|
      fxBI (fX5_weekWork (σ20.2.2 2) (σ20.1 ((σ20.2.2 2) + 2) (Int32.toNatClampNeg a1)) w18 r8 r12 (((σ20.1 7 2) + w19) - 1) σ20) <| fun (r28 : Int32) (σ29 : FH) =>
      fxL (α := Int32) (w18 + r28) <| fun (v30 : Int32) =>
      if v30 ≤ r8 then (
        fX11_caught_49 a1 r8 r12 K16 n22 v30 (w19 + 1) σ29)
      else (
        some (w19, σ29)))
def fX11_caught (a1 : Int32) (σ : FH) : Option (Int32 × FH) :=
  fxG (LX[(σ.2.2 2)]? = some (5, 0)) <|
  fxBP (fX5_hasWare (σ.2.2 2) a1 σ) <| fun (r3 : Int32) =>
  if r3 = 0 then (
    some (((-1) : Int32), σ))
  else (
    fxG (LX[(σ.2.2 2)]? = some (5, 0)) <|
    fxBP (fX5_halfOf (σ.2.2 2) a1 σ) <| fun (r8 : Int32) =>
    fxG (LX[(σ.2.2 2)]? = some (5, 0)) <|
    fxBP (fX7_votesFor 7 (σ.2.2 2) a1 σ) <| fun (r12 : Int32) =>
    fxG (fx_in a1 6 = true) <|
    fxL (α := Int32) (σ.1 8 (Int32.toNatClampNeg a1)) <| fun (v15 : Int32) =>
    fxL (fun (σ17 : FH) =>
        some (((-1) : Int32), σ17)) <| fun K16 =>
    fX11_caught_49 a1 r8 r12 K16 FU v15 1 σ)

def fX11_joined (a1 : Int32) (a2 : Int32) (σ : FH) : Option (Int32 × FH) :=
  fxG (LX[(σ.2.2 2)]? = some (5, 0)) <|
  fxBP (fX5_couldPair (σ.2.2 2) a1 a2 σ) <| fun (r3 : Int32) =>
  if r3 = 0 then (
    some (((-1) : Int32), σ))
  else (
    fxBI (fX11_weeksToHalf a1 σ) <| fun (r7 : Int32) (σ8 : FH) =>
    fxBI (fX11_weeksToHalf a2 σ8) <| fun (r10 : Int32) (σ11 : FH) =>
    if r7 = (-1) then (
      some (((-1) : Int32), σ11))
    else (
      if r10 = (-1) then (
        some (((-1) : Int32), σ11))
      else (
        some ((if r7 < r10 then r10 else r7), σ11))))

def fX11_fines_28 (a1 : Int32) (K6 : Int32 → FH → Option (Int32 × FH)) : Nat → Int32 → Int32 → FH → Option (Int32 × FH)
  | 0, _, _, _ => none
  | n13 + 1, w9, w10, σ11 =>
    if a1 ≤ w10 then (
      K6 w9 σ11)
    else (
      fxG (LX[(σ11.2.2 2)]? = some (5, 0)) <|
      fxBI (fX7_passWeek 10 (σ11.2.2 2) σ11) <| fun (r17 : Int32) (σ18 : FH) =>
      fxL (α := Int32) (w9 + r17) <| fun (v19 : Int32) =>
      fX11_fines_28 a1 K6 n13 v19 (w10 + 1) σ18)
def fX11_fines (a1 : Int32) (σ : FH) : Option (Int32 × FH) :=
  if a1 < 1 then (
    some (((-1) : Int32), σ))
  else (
    if a1 ≤ 60 then (
      fxBV (fX7_copyOf 10 7 σ) <| fun (σ5 : FH) =>
      fxL (fun (x7 : Int32) (σ8 : FH) =>
          some (x7, σ8)) <| fun K6 =>
      fX11_fines_28 a1 K6 FU 0 0 σ5)
    else (
      some (((-1) : Int32), σ)))

def fX11_round_19 (σ : FH) (w4 : Int32) (K10 : Int32 → Option Int32) : Nat → Int32 → Int32 → Option Int32
  | 0, _, _ => none
  | n15 + 1, w12, w13 =>
    fxG (LX[(σ.2.2 2)]? = some (5, 0)) <|
    if (σ.1 (σ.2.2 2) 0) ≤ w13 then (
      K10 w12)
    else (
      fxG (LX[(σ.2.2 2)]? = some (5, 0)) <|
      fxBP (fX7_canJoin 7 (σ.2.2 2) w4 w13 σ) <| fun (r20 : Int32) =>
      fxL (α := Int32) (if r20 = 0 then w12 else (w12 + 1)) <| fun (v22 : Int32) =>
      fX11_round_19 σ w4 K10 n15 v22 (w13 + 1))
def fX11_round_4 (σ : FH) (K1 : Int32 → Option Int32) : Nat → Int32 → Int32 → Option Int32
  | 0, _, _ => none
  | n6 + 1, w3, w4 =>
    fxG (LX[(σ.2.2 2)]? = some (5, 0)) <|
    if (σ.1 (σ.2.2 2) 0) ≤ w4 then (
      K1 w3)
    else (
      fxL (α := Int32) (w4 + 1) <| fun (v9 : Int32) =>
      fxL (fun (x11 : Int32) =>
          fX11_round_4 σ K1 n6 x11 (w4 + 1)) <| fun K10 =>
      fX11_round_19 σ w4 K10 FU w3 v9)
def fX11_round  (σ : FH) : Option Int32 :=
  fxL (fun (x2 : Int32) =>
      some x2) <| fun K1 =>
  fX11_round_4 σ K1 FU 0 0

def fX11_isBetter (a1 : Int32) (a2 : Int32) (σ : FH) : Option Int32 :=
  fxBP (fJ6_bitCount_0f7a4 a1 σ) <| fun (r2 : Int32) =>
  fxBP (fJ6_bitCount_0f7a4 a2 σ) <| fun (r5 : Int32) =>
  fxL (α := Int32) (r2 - r5) <| fun (v7 : Int32) =>
  if 0 < v7 then (
    some (1 : Int32))
  else (
    if v7 = 0 then (
      fxG (LX[(σ.2.2 2)]? = some (5, 0)) <|
      fxBP (fX7_lackOf 7 (σ.2.2 2) a1 σ) <| fun (r12 : Int32) =>
      fxG (LX[(σ.2.2 2)]? = some (5, 0)) <|
      fxBP (fX7_lackOf 7 (σ.2.2 2) a2 σ) <| fun (r16 : Int32) =>
      if r16 ≤ r12 then (
        some (0 : Int32))
      else (
        some (1 : Int32)))
    else (
      some (0 : Int32)))

def fX11_most_40 (a1 : Int32) (σ : FH) (r7 : Int32) (K9 : Int32 → Option Int32) : Nat → Int32 → Int32 → Option Int32
  | 0, _, _ => none
  | n23 + 1, w20, w21 =>
    fxG (LX[(σ.2.2 2)]? = some (5, 0)) <|
    if (1 <<< ((σ.1 (σ.2.2 2) 0) &&& 31)) ≤ w21 then (
      K9 w20)
    else (
      fxL (fun (y27 : Int32) =>
          if y27 = 0 then (
            fX11_most_40 a1 σ r7 K9 n23 w20 (w21 + 1))
          else (
            fxBP (fX11_isBetter w21 w20 σ) <| fun (r30 : Int32) =>
            if r30 = 0 then (
              fX11_most_40 a1 σ r7 K9 n23 w20 (w21 + 1))
            else (
              fX11_most_40 a1 σ r7 K9 n23 w21 (w21 + 1)))) <| fun J26 =>
      fxL (
          J26 0) <| fun J33 =>
      if (w21 &&& r7) = r7 then (
        fxG (LX[(σ.2.2 2)]? = some (5, 0)) <|
        fxBP (fX7_lackOf 7 (σ.2.2 2) w21 σ) <| fun (r37 : Int32) =>
        if a1 < r37 then (
          J33)
        else (
          J26 1))
      else (
        J33))
def fX11_most (a1 : Int32) (a2 : Int32) (σ : FH) : Option Int32 :=
  if a1 < 0 then (
    some ((-1) : Int32))
  else (
    if 200 < a1 then (
      some ((-1) : Int32))
    else (
      if a2 < 0 then (
        some ((-1) : Int32))
      else (
        if a2 ≤ 2 then (
          fxG (LX[(σ.2.2 2)]? = some (5, 0)) <|
          fxBP (fX7_halfDone 7 (σ.2.2 2) σ) <| fun (r7 : Int32) =>
          fxL (fun (x10 : Int32) =>
              if a2 = 0 then (
                fxBP (fJ6_bitCount_0f7a4 x10 σ) <| fun (r18 : Int32) =>
                some r18)
              else (
                if a2 = 1 then (
                  fxG (LX[(σ.2.2 2)]? = some (5, 0)) <|
                  fxBP (fX7_lackOf 7 (σ.2.2 2) x10 σ) <| fun (r15 : Int32) =>
                  some r15)
                else (
                  some x10))) <| fun K9 =>
          fX11_most_40 a1 σ r7 K9 FU r7 0)
        else (
          some ((-1) : Int32)))))

def fX11_ways (a1 : Int32) (σ : FH) : Option (Int32 × FH) :=
  if a1 < 0 then (
    some (((-1) : Int32), σ))
  else (
    if a1 ≤ 200 then (
      fxG (LX[(σ.2.2 2)]? = some (5, 0)) <|
      fxBV (fX0_meet (σ.1 (σ.2.2 2) 5) 9 5 σ) <| fun (σ6 : FH) =>
      fxBP (fX0_setsOf a1 σ6) <| fun (r8 : Int32) =>
      some (r8, σ6))
    else (
      some (((-1) : Int32), σ)))

def fX11_pivot (a1 : Int32) (σ : FH) : Option (Int32 × FH) :=
  fxG (LX[(σ.2.2 2)]? = some (5, 0)) <|
  fxBP (fX5_hasParty (σ.2.2 2) a1 σ) <| fun (r3 : Int32) =>
  if r3 = 0 then (
    some (((-1) : Int32), σ))
  else (
    fxG (LX[(σ.2.2 2)]? = some (5, 0)) <|
    fxBV (fX0_meet (σ.1 (σ.2.2 2) 5) 9 5 σ) <| fun (σ9 : FH) =>
    fxBP (fX0_turnsBy a1 σ9) <| fun (r11 : Int32) =>
    some (r11, σ9))

def fX11_power_38 (σ9 : FH) (K10 : Int32 → Option (Int32 × FH)) : Nat → Int32 → Int32 → Option (Int32 × FH)
  | 0, _, _ => none
  | n20 + 1, w17, w18 =>
    fxG (LX[(σ9.2.2 2)]? = some (5, 0)) <|
    if (σ9.1 (σ9.2.2 2) 5) ≤ w18 then (
      K10 w17)
    else (
      fxBP (fX0_turnsBy w18 σ9) <| fun (r24 : Int32) =>
      fxL (α := Int32) (w17 + r24) <| fun (v26 : Int32) =>
      fX11_power_38 σ9 K10 n20 v26 (w18 + 1))
def fX11_power (a1 : Int32) (σ : FH) : Option (Int32 × FH) :=
  fxG (LX[(σ.2.2 2)]? = some (5, 0)) <|
  fxBP (fX5_hasParty (σ.2.2 2) a1 σ) <| fun (r3 : Int32) =>
  if r3 = 0 then (
    some (((-1) : Int32), σ))
  else (
    fxG (LX[(σ.2.2 2)]? = some (5, 0)) <|
    fxBV (fX0_meet (σ.1 (σ.2.2 2) 5) 9 5 σ) <| fun (σ9 : FH) =>
    fxL (fun (x11 : Int32) =>
        if 0 < x11 then (
          fxBP (fX0_turnsBy a1 σ9) <| fun (r14 : Int32) =>
          fxG (¬ x11 = 0) <|
          some (((1000000 * r14) / x11), σ9))
        else (
          some (((-1) : Int32), σ9))) <| fun K10 =>
    fX11_power_38 σ9 K10 FU 0 0)

def fX11_core  (σ : FH) : Option (Int32 × FH) :=
  fxG (LX[(σ.2.2 2)]? = some (5, 0)) <|
  fxBV (fX0_meet (σ.1 (σ.2.2 2) 5) 9 5 σ) <| fun (σ4 : FH) =>
  fxBP (fX0_inEveryMajority σ4) <| fun (r6 : Int32) =>
  some (r6, σ4)

def fX11_lean  (σ : FH) : Option (Int32 × FH) :=
  fxG (LX[(σ.2.2 2)]? = some (5, 0)) <|
  fxBV (fX0_meet (σ.1 (σ.2.2 2) 5) 9 5 σ) <| fun (σ4 : FH) =>
  fxBP (fX0_leastMajority σ4) <| fun (r6 : Int32) =>
  some (r6, σ4)

def fX11_shift_85 (a1 : Int32) (a2 : Int32) (σ : FH) (w20 : Int32) (w25 : Int32) (K30 : Option Int32) : Nat → Int32 → Option Int32
  | 0, _ => none
  | n33 + 1, w31 =>
    fxG (LX[(σ.2.2 2)]? = some (5, 0)) <|
    if (σ.1 (σ.2.2 2) 5) ≤ w31 then (
      K30)
    else (
      fxG (LX[(σ.2.2 2)]? = some (5, 0)) <|
      fxBP (fX7_wouldHalve 7 (σ.2.2 2) a1 w25 w31 w20 σ) <| fun (r38 : Int32) =>
      if r38 = 0 then (
        fX11_shift_85 a1 a2 σ w20 w25 K30 n33 (w31 + 1))
      else (
        fxL (α := Int32) (if a2 = 0 then w20 else (if a2 = 1 then w25 else w31)) <| fun (v41 : Int32) =>
        some v41))
def fX11_shift_70 (a1 : Int32) (a2 : Int32) (σ : FH) (w20 : Int32) (K24 : Option Int32) : Nat → Int32 → Option Int32
  | 0, _ => none
  | n27 + 1, w25 =>
    fxG (LX[(σ.2.2 2)]? = some (5, 0)) <|
    if (σ.1 (σ.2.2 2) 5) ≤ w25 then (
      K24)
    else (
      fxL (
          fX11_shift_70 a1 a2 σ w20 K24 n27 (w25 + 1)) <| fun K30 =>
      fX11_shift_85 a1 a2 σ w20 w25 K30 FU 0)
def fX11_shift_61 (a1 : Int32) (a2 : Int32) (σ : FH) (K19 : Option Int32) : Nat → Int32 → Option Int32
  | 0, _ => none
  | n22 + 1, w20 =>
    if 20 < w20 then (
      K19)
    else (
      fxL (
          fX11_shift_61 a1 a2 σ K19 n22 (w20 + 1)) <| fun K24 =>
      fX11_shift_70 a1 a2 σ w20 K24 FU 0)
def fX11_shift (a1 : Int32) (a2 : Int32) (σ : FH) : Option Int32 :=
  fxG (LX[(σ.2.2 2)]? = some (5, 0)) <|
  fxBP (fX5_hasWare (σ.2.2 2) a1 σ) <| fun (r3 : Int32) =>
  if r3 = 0 then (
    some ((-2) : Int32))
  else (
    if a2 < 0 then (
      some ((-2) : Int32))
    else (
      if a2 ≤ 2 then (
        fxG (LX[(σ.2.2 2)]? = some (5, 0)) <|
        fxBP (fX7_votesFor 7 (σ.2.2 2) a1 σ) <| fun (r10 : Int32) =>
        fxBP (fX7_allSeats 7 σ) <| fun (r13 : Int32) =>
        fxBP (fX11_standing r10 r13 σ) <| fun (r16 : Int32) =>
        if r16 = 1 then (
          fxL (α := Int32) (if a2 = 0 then 0 else (-1)) <| fun (v48 : Int32) =>
          some v48)
        else (
          fxL (
              some ((-2) : Int32)) <| fun K19 =>
          fX11_shift_61 a1 a2 σ K19 FU 1))
      else (
        some ((-2) : Int32))))

def fX11_rival_20 (a1 : Int32) (σ : FH) (K6 : Int32 → Option Int32) : Nat → Int32 → Int32 → Int32 → Option Int32
  | 0, _, _, _ => none
  | n12 + 1, w8, w9, w10 =>
    fxG (LX[(σ.2.2 2)]? = some (5, 0)) <|
    if (σ.1 (σ.2.2 2) 5) ≤ w10 then (
      K6 w8)
    else (
      fxG (LX[(σ.2.2 2)]? = some (5, 0)) <|
      fxBP (fX5_agreement (σ.2.2 2) a1 w10 σ) <| fun (r17 : Int32) =>
      if w10 = a1 then (
        fX11_rival_20 a1 σ K6 n12 w8 w9 (w10 + 1))
      else (
        if w8 = (-1) then (
          fX11_rival_20 a1 σ K6 n12 w10 r17 (w10 + 1))
        else (
          if w9 ≤ r17 then (
            fX11_rival_20 a1 σ K6 n12 w8 w9 (w10 + 1))
          else (
            fX11_rival_20 a1 σ K6 n12 w10 r17 (w10 + 1)))))
def fX11_rival (a1 : Int32) (σ : FH) : Option Int32 :=
  fxG (LX[(σ.2.2 2)]? = some (5, 0)) <|
  fxBP (fX5_hasParty (σ.2.2 2) a1 σ) <| fun (r3 : Int32) =>
  if r3 = 0 then (
    some ((-1) : Int32))
  else (
    fxL (fun (x7 : Int32) =>
        some x7) <| fun K6 =>
    fX11_rival_20 a1 σ K6 FU (-1) 0 0)

def fX11_friends_19 (σ : FH) (w4 : Int32) (K10 : Int32 → Option Int32) : Nat → Int32 → Int32 → Option Int32
  | 0, _, _ => none
  | n15 + 1, w12, w13 =>
    fxG (LX[(σ.2.2 2)]? = some (5, 0)) <|
    if (σ.1 (σ.2.2 2) 5) ≤ w13 then (
      K10 w12)
    else (
      fxG (LX[(σ.2.2 2)]? = some (5, 0)) <|
      fxG (fx_in w4 5 = true) <|
      fxG (LX[(σ.2.2 2)]? = some (5, 0)) <|
      fxG (fx_in w13 5 = true) <|
      fxL (α := Int32) (if (σ.1 ((σ.2.2 2) + 7) (Int32.toNatClampNeg w4)) = (σ.1 ((σ.2.2 2) + 7) (Int32.toNatClampNeg w13)) then (w12 + 1) else w12) <| fun (v22 : Int32) =>
      fX11_friends_19 σ w4 K10 n15 v22 (w13 + 1))
def fX11_friends_4 (σ : FH) (K1 : Int32 → Option Int32) : Nat → Int32 → Int32 → Option Int32
  | 0, _, _ => none
  | n6 + 1, w3, w4 =>
    fxG (LX[(σ.2.2 2)]? = some (5, 0)) <|
    if (σ.1 (σ.2.2 2) 5) ≤ w4 then (
      K1 w3)
    else (
      fxL (α := Int32) (w4 + 1) <| fun (v9 : Int32) =>
      fxL (fun (x11 : Int32) =>
          fX11_friends_4 σ K1 n6 x11 (w4 + 1)) <| fun K10 =>
      fX11_friends_19 σ w4 K10 FU w3 v9)
def fX11_friends  (σ : FH) : Option Int32 :=
  fxL (fun (x2 : Int32) =>
      some x2) <| fun K1 =>
  fX11_friends_4 σ K1 FU 0 0

def fX11_bloc_17 (a1 : Int32) (σ : FH) (K6 : Int32 → Option Int32) : Nat → Int32 → Int32 → Option Int32
  | 0, _, _ => none
  | n11 + 1, w8, w9 =>
    fxG (LX[(σ.2.2 2)]? = some (5, 0)) <|
    if (σ.1 (σ.2.2 2) 5) ≤ w9 then (
      K6 w8)
    else (
      fxG (LX[(σ.2.2 2)]? = some (5, 0)) <|
      fxBP (fX5_isFor (σ.2.2 2) w9 a1 σ) <| fun (r16 : Int32) =>
      fxL (α := Int32) (if r16 = 0 then w8 else (w8 ||| (1 <<< (w9 &&& 31)))) <| fun (v18 : Int32) =>
      fX11_bloc_17 a1 σ K6 n11 v18 (w9 + 1))
def fX11_bloc (a1 : Int32) (σ : FH) : Option Int32 :=
  fxG (LX[(σ.2.2 2)]? = some (5, 0)) <|
  fxBP (fX5_hasWare (σ.2.2 2) a1 σ) <| fun (r3 : Int32) =>
  if r3 = 0 then (
    some ((-1) : Int32))
  else (
    fxL (fun (x7 : Int32) =>
        some x7) <| fun K6 =>
    fX11_bloc_17 a1 σ K6 FU 0 0)

def fX11_orphans_4 (σ : FH) (K1 : Int32 → Option Int32) : Nat → Int32 → Int32 → Option Int32
  | 0, _, _ => none
  | n6 + 1, w3, w4 =>
    fxG (LX[(σ.2.2 2)]? = some (5, 0)) <|
    if (σ.1 (σ.2.2 2) 0) ≤ w4 then (
      K1 w3)
    else (
      fxG (LX[(σ.2.2 2)]? = some (5, 0)) <|
      fxBP (fX7_votesFor 7 (σ.2.2 2) w4 σ) <| fun (r11 : Int32) =>
      fxL (α := Int32) (if r11 = 0 then (w3 ||| (1 <<< (w4 &&& 31))) else w3) <| fun (v13 : Int32) =>
      fX11_orphans_4 σ K1 n6 v13 (w4 + 1))
def fX11_orphans  (σ : FH) : Option Int32 :=
  fxL (fun (x2 : Int32) =>
      some x2) <| fun K1 =>
  fX11_orphans_4 σ K1 FU 0 0

def fX11_say (a1 : Int32) (a2 : Int32) (σ : FH) : Option (Int32 × FH) :=
  if a1 < 0 then (
    some ((0 : Int32), σ))
  else (
    if a1 ≤ 30 then (
      fxBI (fX6_put 13 a1 a2 σ) <| fun (r4 : Int32) (σ5 : FH) =>
      fxG (fx_bo r4 = true) <|
      some (r4, σ5))
    else (
      some ((0 : Int32), σ)))

def fX11_wholes_39 (σ6 : FH) (K7 : Int32 → Int32 → Int32 → Option (Int32 × FH)) : Nat → Int32 → Int32 → Int32 → Int32 → Option (Int32 × FH)
  | 0, _, _, _, _ => none
  | n20 + 1, w15, w16, w17, w18 =>
    if 60 < w18 then (
      K7 w15 w16 w17)
    else (
      fxBP (fX6_allows 13 (w18 / 2) σ6) <| fun (r23 : Int32) =>
      if r23 = 0 then (
        fX11_wholes_39 σ6 K7 n20 w15 w16 w17 (w18 + 1))
      else (
        fxL (α := Int32) (if w16 = (-1) then w18 else w16) <| fun (v26 : Int32) =>
        fX11_wholes_39 σ6 K7 n20 (w15 + 1) v26 w18 (w18 + 1)))
def fX11_wholes (a1 : Int32) (σ : FH) : Option (Int32 × FH) :=
  if a1 < 0 then (
    some (((-1) : Int32), σ))
  else (
    if a1 ≤ 2 then (
      fxG (LX[(σ.2.2 2)]? = some (5, 0)) <|
      fxBV (fX6_lookAhead 13 (σ.2.2 2) (σ.1 7 2) σ) <| fun (σ6 : FH) =>
      fxL (fun (x8 : Int32) (x9 : Int32) (x10 : Int32) =>
          fxL (α := Int32) (if a1 = 0 then x8 else (if a1 = 1 then x9 else x10)) <| fun (v11 : Int32) =>
          some (v11, σ6)) <| fun K7 =>
      fX11_wholes_39 σ6 K7 FU 0 (-1) (-1) 2)
    else (
      some (((-1) : Int32), σ)))

def fX11_ask  (σ : FH) : Option (Int32 × FH) :=
  fxG (LX[(σ.2.2 2)]? = some (5, 0)) <|
  fxBV (fX6_lookAhead 13 (σ.2.2 2) (σ.1 7 2) σ) <| fun (σ4 : FH) =>
  fxBP (fX6_bestQuestion 13 σ4) <| fun (r6 : Int32) =>
  some (r6, σ4)

def fX11_finedWays_83 (a4 : Int32) (K27 : Int32 → Option (Int32 × FH)) : Nat → Int32 → Int32 → Option (Int32 × FH)
  | 0, _, _ => none
  | n32 + 1, w29, w30 =>
    if a4 ≤ w30 then (
      K27 w29)
    else (
      fxL (α := Int32) (w29 * 10) <| fun (v34 : Int32) =>
      fX11_finedWays_83 a4 K27 n32 v34 (w30 + 1))
def bX11_finedWays (rc_finedWays : Int32 → Int32 → Int32 → Int32 → Int32 → FH → Option (Int32 × FH)) (a1 : Int32) (a2 : Int32) (a3 : Int32) (a4 : Int32) (a5 : Int32) (σ : FH) : Option (Int32 × FH) :=
  if 0 < a4 then (
    fxG (LX[(σ.2.2 2)]? = some (5, 0)) <|
    fxBP (fX5_halfOf (σ.2.2 2) a1 σ) <| fun (r4 : Int32) =>
    fxBI (rc_finedWays a1 a2 (a3 + 1) (a4 - 1) a5 σ) <| fun (r7 : Int32) (σ8 : FH) =>
    fxG (LX[(σ8.2.2 2)]? = some (5, 0)) <|
    fxG (LX[(σ8.2.2 2)]? = some (5, 0)) <|
    fxG (fx_in a1 6 = true) <|
    fxG (LX[(σ8.2.2 2)]? = some (5, 0)) <|
    fxBP (fX7_votesFor 7 (σ8.2.2 2) a1 σ8) <| fun (r14 : Int32) =>
    fxBI (fX5_weekWork (σ8.2.2 2) (σ8.1 ((σ8.2.2 2) + 2) (Int32.toNatClampNeg a1)) a2 r4 r14 a3 σ8) <| fun (r17 : Int32) (σ18 : FH) =>
    fxL (α := Int32) (a2 + r17) <| fun (v19 : Int32) =>
    fxL (fun (x21 : Int32) (σ22 : FH) =>
        some (((a5 * r7) + ((10 - a5) * x21)), σ22)) <| fun J20 =>
    if v19 ≤ r4 then (
      fxBI (rc_finedWays a1 v19 (a3 + 1) (a4 - 1) a5 σ18) <| fun (r25 : Int32) (σ26 : FH) =>
      J20 r25 σ26)
    else (
      fxL (fun (x28 : Int32) =>
          J20 x28 σ18) <| fun K27 =>
      fX11_finedWays_83 a4 K27 FU 1 1))
  else (
    some ((0 : Int32), σ))
def gX11_rec : Nat → (Int32 → Int32 → Int32 → Int32 → Int32 → FH → Option (Int32 × FH))
  | 0 => (fun _ _ _ _ _ _ => none)
  | d + 1 => bX11_finedWays (gX11_rec d)
def fX11_finedWays (d : Nat) : Int32 → Int32 → Int32 → Int32 → Int32 → FH → Option (Int32 × FH) := (gX11_rec d)

def fX11_chance_74 (K17 : Int32 → Option (Int32 × FH)) : Nat → Int32 → Int32 → Option (Int32 × FH)
  | 0, _, _ => none
  | n22 + 1, w19, w20 =>
    if 6 ≤ w20 then (
      K17 w19)
    else (
      fxL (α := Int32) (w19 * 10) <| fun (v24 : Int32) =>
      fX11_chance_74 K17 n22 v24 (w20 + 1))
def fX11_chance (a1 : Int32) (a2 : Int32) (a3 : Int32) (σ : FH) : Option (Int32 × FH) :=
  fxG (LX[(σ.2.2 2)]? = some (5, 0)) <|
  fxBP (fX5_hasWare (σ.2.2 2) a1 σ) <| fun (r3 : Int32) =>
  fxL (α := Int32) (if r3 = 0 then 0 else (if a2 < 1 then 0 else (if 6 < a2 then 0 else 1))) <| fun (v5 : Int32) =>
  if v5 = 0 then (
    some (((-1) : Int32), σ))
  else (
    if a3 < 0 then (
      some (((-1) : Int32), σ))
    else (
      if a3 ≤ 10 then (
        fxG (fx_in a1 6 = true) <|
        fxBI (fX11_finedWays 8 a1 (σ.1 8 (Int32.toNatClampNeg a1)) (σ.1 7 2) a2 a3 σ) <| fun (r15 : Int32) (σ16 : FH) =>
        fxL (fun (x18 : Int32) =>
            some (x18, σ16)) <| fun K17 =>
        fX11_chance_74 K17 FU r15 a2)
      else (
        some (((-1) : Int32), σ))))

def fX11_nextDraw (a0 : Int64) (σ : FH) : Option Int64 :=
  some (((a0 * 1103515245) + 12345) - ((a0 * 1103515245) + 12345) / 2147483648 * 2147483648)

def fX11_drawn (a0 : Int64) (a2 : Int32) (σ : FH) : Option Int32 :=
  if 0 < a2 then (
    fxG (¬ (Int32.toInt64 a2) = 0) <|
    some (Int64.toInt32 ((a0 / 65536) - (a0 / 65536) / (Int32.toInt64 a2) * (Int32.toInt64 a2))))
  else (
    some (0 : Int32))

def fX11_drawDeed (a1 : Int64) (σ : FH) : Option (Int64 × FH) :=
  fxG (LX[(σ.2.2 2)]? = some (5, 0)) <|
  if 0 < (σ.1 (σ.2.2 2) 0) then (
    fxBP (fX11_nextDraw a1 σ) <| fun (r4 : Int64) =>
    fxG (LX[(σ.2.2 2)]? = some (5, 0)) <|
    fxBP (fX11_drawn r4 (σ.1 (σ.2.2 2) 0) σ) <| fun (r8 : Int32) =>
    fxBP (fX11_nextDraw r4 σ) <| fun (r11 : Int64) =>
    fxBP (fX11_drawn r11 5 σ) <| fun (r14 : Int32) =>
    if r14 ≤ 2 then (
      fxBP (fX11_nextDraw r11 σ) <| fun (r18 : Int64) =>
      if r14 = 0 then (
        fxBP (fX11_drawn r18 20 σ) <| fun (r43 : Int32) =>
        fxBV (fX7_takeOff 10 r8 (r43 + 1) σ) <| fun (σ47 : FH) =>
        some (r18, σ47))
      else (
        if r14 = 1 then (
          fxG (LX[(σ.2.2 2)]? = some (5, 0)) <|
          fxBP (fX11_drawn r18 20 σ) <| fun (r37 : Int32) =>
          fxBI (fX7_workOn 10 (σ.2.2 2) r8 (r37 + 1) σ) <| fun (r40 : Int32) (σ41 : FH) =>
          some (r18, σ41))
        else (
          fxG (LX[(σ.2.2 2)]? = some (5, 0)) <|
          fxBP (fX11_drawn r18 (σ.1 (σ.2.2 2) 0) σ) <| fun (r24 : Int32) =>
          fxG (LX[(σ.2.2 2)]? = some (5, 0)) <|
          fxBP (fX7_canJoin 10 (σ.2.2 2) r8 r24 σ) <| fun (r28 : Int32) =>
          if r28 = 0 then (
            some (r18, σ))
          else (
            fxG (LX[(σ.2.2 2)]? = some (5, 0)) <|
            fxBV (fX7_arrest 10 (σ.2.2 2) r8 r24 σ) <| fun (σ34 : FH) =>
            some (r18, σ34)))))
    else (
      some (r11, σ)))
  else (
    some (a1, σ))

def fX11_terms_63 (a2 : Int32) (K14 : FH → Option (Int32 × FH)) : Nat → Int64 → Int32 → FH → Option (Int32 × FH)
  | 0, _, _, _ => none
  | n25 + 1, w21, w22, σ23 =>
    if a2 ≤ w22 then (
      K14 σ23)
    else (
      fxBJ (fX11_drawDeed w21 σ23) <| fun (r28 : Int64) (σ29 : FH) =>
      fxG (LX[(σ29.2.2 2)]? = some (5, 0)) <|
      fxBI (fX7_passWeek 10 (σ29.2.2 2) σ29) <| fun (r32 : Int32) (σ33 : FH) =>
      fX11_terms_63 a2 K14 n25 r28 (w22 + 1) σ33)
def fX11_terms (a1 : Int32) (a2 : Int32) (a3 : Int32) (σ : FH) : Option (Int32 × FH) :=
  fxL (α := Int32) (if a1 < 0 then 0 else (if 9999 < a1 then 0 else (if a2 < 1 then 0 else (if 99 < a2 then 0 else 1)))) <| fun (v1 : Int32) =>
  if v1 = 0 then (
    some (((-1) : Int32), σ))
  else (
    if a3 < 0 then (
      some (((-1) : Int32), σ))
    else (
      if a3 ≤ 2 then (
        fxBV (fX7_copyOf 10 7 σ) <| fun (σ12 : FH) =>
        fxL (α := Int64) (Int32.toInt64 a1) <| fun (v13 : Int64) =>
        fxL (fun (σ15 : FH) =>
            if a3 = 0 then (
              some (((σ15.1 10 3) - (σ15.1 7 3)), σ15))
            else (
              if a3 = 1 then (
                some (((σ15.1 10 4) - (σ15.1 7 4)), σ15))
              else (
                fxBP (fX7_allDone 10 σ15) <| fun (r19 : Int32) =>
                some (r19, σ15)))) <| fun K14 =>
        fX11_terms_63 a2 K14 FU v13 0 σ12)
      else (
        some (((-1) : Int32), σ))))

def fX11_mark (a1 : Int32) (a2 : Int32) (σ : FH) : Option (Int32 × FH) :=
  if a1 < 0 then (
    some ((0 : Int32), σ))
  else (
    if a1 < 4 then (
      fxG (fx_in a1 4 = true) <|
      if a2 = 0 then (
        fxG (LX[(σ.2.2 4)]? = some (8, 0)) <|
        fxBV (fX3_lay (99 + 13 * (Int32.toNatClampNeg a1)) 7 (σ.2.2 4) 13 σ) <| fun (σ20 : FH) =>
        some ((1 : Int32), σ20))
      else (
        if (σ.1 (99 + 13 * (Int32.toNatClampNeg a1)) 0) = 0 then (
          some ((0 : Int32), σ))
        else (
          fxBV (fX7_copyOf 7 ((99 + 13 * (Int32.toNatClampNeg a1)) + 1) σ) <| fun (σ8 : FH) =>
          fxG (LX[(σ8.2.2 4)]? = some (8, 0)) <|
          fxBV (fX8_copyOf (σ8.2.2 4) ((99 + 13 * (Int32.toNatClampNeg a1)) + 4) σ8) <| fun (σ12 : FH) =>
          fxBV (fX6_copyOf 13 ((99 + 13 * (Int32.toNatClampNeg a1)) + 9) σ12) <| fun (σ15 : FH) =>
          fxL (fx_si σ15 0 11 0) <| fun (σ16 : FH) =>
          some ((1 : Int32), σ16))))
    else (
      some ((0 : Int32), σ)))

def fX11_count (a1 : Int32) (σ : FH) : Option Int32 :=
  if a1 = 0 then (
    fxG (LX[(σ.2.2 2)]? = some (5, 0)) <|
    some (σ.1 (σ.2.2 2) 0)) else
  if a1 = 1 then (
    fxG (LX[(σ.2.2 2)]? = some (5, 0)) <|
    some (σ.1 (σ.2.2 2) 5)) else
  if a1 = 2 then (
    fxG (LX[(σ.2.2 2)]? = some (5, 0)) <|
    some (σ.1 (σ.2.2 2) 9)) else
  if a1 = 3 then (
    some (σ.1 7 2)) else
  if a1 = 4 then (
    some (σ.1 7 3)) else
  if a1 = 5 then (
    fxBP (fX7_allDone 7 σ) <| fun (r11 : Int32) =>
    some r11) else
  if a1 = 6 then (
    fxG (LX[(σ.2.2 2)]? = some (5, 0)) <|
    fxBP (fX7_halfDone 7 (σ.2.2 2) σ) <| fun (r16 : Int32) =>
    some r16) else
  if a1 = 7 then (
    fxBP (fX7_allSeats 7 σ) <| fun (r20 : Int32) =>
    some r20) else
  if a1 = 8 then (
    some (σ.1 7 4)) else
  if a1 = 9 then (
    fxG (LX[(σ.2.2 4)]? = some (8, 0)) <|
    some (σ.1 (σ.2.2 4) 0)) else
  if a1 = 10 then (
    some (σ.1 13 0)) else
  if a1 = 11 then (
    some (σ.1 0 11)) else
  if a1 = 12 then (
    some (σ.1 3 1)) else
  (
    some ((-1) : Int32))

def fX11_isStake (a0 : Int32) (σ : FH) : Option Int32 :=
  fxL (α := Int32) (if a0 < 0 then 0 else (if 9 < a0 then 0 else 1)) <| fun (v1 : Int32) =>
  fxG (fx_bo v1 = true) <|
  some v1

def fX11_gain (a0 : Int32) (a1 : Int32) (a2 : Int32) (a3 : Int32) (a4 : Int32) (σ : FH) : Option Int32 :=
  if a0 = 1 then (
    fxL (α := Int32) (if a1 = 1 then (-a2) else a3) <| fun (v5 : Int32) =>
    some v5)
  else (
    fxL (α := Int32) (if a1 = 1 then a4 else 0) <| fun (v2 : Int32) =>
    some v2)

def fX11_isAtRest (a0 : Int32) (a1 : Int32) (a2 : Int32) (a3 : Int32) (σ : FH) : Option Int32 :=
  fxL (α := Int32) (a0 / 2) <| fun (v1 : Int32) =>
  fxL (α := Int32) (a0 - a0 / 2 * 2) <| fun (v2 : Int32) =>
  fxBP (fX11_gain v1 v2 a1 a2 a3 σ) <| fun (r4 : Int32) =>
  fxBP (fX11_gain (1 - v1) v2 a1 a2 a3 σ) <| fun (r7 : Int32) =>
  if r4 < r7 then (
    some (0 : Int32))
  else (
    fxBP (fX11_gain v2 v1 a1 a2 a3 σ) <| fun (r11 : Int32) =>
    fxBP (fX11_gain (1 - v2) v1 a1 a2 a3 σ) <| fun (r14 : Int32) =>
    if r11 < r14 then (
      some (0 : Int32))
    else (
      some (1 : Int32)))

def fX12_thrown  (σ : FH) : Option Int32 :=
  some (σ.1 0 0)

def fX12_within (a0 : Int32) (a1 : Int32) (a2 : Int32) (σ : FH) : Option Int32 :=
  fxL (α := Int32) (if a0 < a1 then 0 else (if a2 < a0 then 0 else 1)) <| fun (v1 : Int32) =>
  fxG (fx_bo v1 = true) <|
  some v1

def fX12_between (a0 : Int32) (a1 : Int32) (a2 : Int32) (σ : FH) : Option Int32 :=
  fxL (α := Int32) (if a1 ≤ a0 then (if a0 ≤ a2 then a0 else a2) else a1) <| fun (v1 : Int32) =>
  some v1

def fX12_bits_4 (a0 : Int32) (K1 : Int32 → Option Int32) : Nat → Int32 → Int32 → Option Int32
  | 0, _, _ => none
  | n6 + 1, w3, w4 =>
    if 6 ≤ w4 then (
      K1 w3)
    else (
      fxL (α := Int32) (w3 + ((a0 >>> (w4 &&& 31)) &&& 1)) <| fun (v8 : Int32) =>
      fX12_bits_4 a0 K1 n6 v8 (w4 + 1))
def fX12_bits (a0 : Int32) (σ : FH) : Option Int32 :=
  fxL (fun (x2 : Int32) =>
      some x2) <| fun K1 =>
  fX12_bits_4 a0 K1 FU 0 0

def fX12_feed_8 (a1 : Int64) (a3 : Int64) (a5 : Int64) (K2 : FH → Option (Int32 × FH)) : Nat → Int32 → FH → Option (Int32 × FH)
  | 0, _, _ => none
  | n7 + 1, w4, σ5 =>
    if 24 ≤ w4 then (
      K2 σ5)
    else (
      fxL (α := Int64) (if 8 ≤ w4 then (if 16 ≤ w4 then a5 else a3) else a1) <| fun (v9 : Int64) =>
      fxL (α := Int32) (Int64.toInt32 (((Int64.toUInt64 v9 >>> ((Int32.toInt64 (56 - (8 * (w4 &&& 7)))).toUInt64 &&& Int64.toUInt64 63)).toInt64) &&& 255)) <| fun (v13 : Int32) =>
      if 1000 ≤ (σ5.1 0 1) then (
        fX12_feed_8 a1 a3 a5 K2 n7 (w4 + 1) σ5)
      else (
        fxL (
            fxG (fx_in (σ5.1 0 1) 1000 = true) <|
            fxL (fx_si σ5 1 (Int32.toNatClampNeg (σ5.1 0 1)) v13) <| fun (σ17 : FH) =>
            fxL (fx_si σ17 0 1 ((σ17.1 0 1) + 1)) <| fun (σ18 : FH) =>
            fX12_feed_8 a1 a3 a5 K2 n7 (w4 + 1) σ18) <| fun J15 =>
        if v13 = 10 then (
          J15)
        else (
          if v13 < 32 then (
            fX12_feed_8 a1 a3 a5 K2 n7 (w4 + 1) σ5)
          else (
            if 126 < v13 then (
              fX12_feed_8 a1 a3 a5 K2 n7 (w4 + 1) σ5)
            else (
              J15)))))
def fX12_feed (a1 : Int64) (a3 : Int64) (a5 : Int64) (σ : FH) : Option (Int32 × FH) :=
  fxL (fx_si σ 0 0 0) <| fun (σ1 : FH) =>
  fxL (fun (σ3 : FH) =>
      some ((σ3.1 0 1), σ3)) <| fun K2 =>
  fX12_feed_8 a1 a3 a5 K2 FU 0 σ1

def fX12_signAt (a1 : Int32) (σ : FH) : Option Int32 :=
  if (σ.1 0 3) ≤ a1 then (
    some (0 : Int32))
  else (
    fxG (fx_in a1 1000 = true) <|
    some (σ.1 1 (Int32.toNatClampNeg a1)))

def fX12_nextToken_224 (K25 : FH → Option FH) : Nat → FH → Option FH
  | 0, _ => none
  | n33 + 1, σ31 =>
    fxBP (fX12_signAt (σ31.1 0 4) σ31) <| fun (r35 : Int32) =>
    if r35 < 48 then (
      K25 σ31)
    else (
      fxBP (fX12_signAt (σ31.1 0 4) σ31) <| fun (r39 : Int32) =>
      if 57 < r39 then (
        K25 σ31)
      else (
        fxL (fun (σ43 : FH) =>
            fxL (fx_si σ43 0 4 ((σ43.1 0 4) + 1)) <| fun (σ44 : FH) =>
            fX12_nextToken_224 K25 n33 σ44) <| fun J42 =>
        if 4 ≤ ((σ31.1 0 4) - (σ31.1 0 5)) then (
          J42 σ31)
        else (
          fxBP (fX12_signAt (σ31.1 0 4) σ31) <| fun (r47 : Int32) =>
          fxL (fx_si σ31 0 8 ((((σ31.1 0 8) * 10) + r47) - 48)) <| fun (σ49 : FH) =>
          J42 σ49)))
def fX12_nextToken_109 (K53 : FH → Option FH) : Nat → FH → Option FH
  | 0, _ => none
  | n61 + 1, σ59 =>
    fxBP (fX12_signAt (σ59.1 0 4) σ59) <| fun (r63 : Int32) =>
    if r63 < 97 then (
      K53 σ59)
    else (
      fxBP (fX12_signAt (σ59.1 0 4) σ59) <| fun (r67 : Int32) =>
      if 122 < r67 then (
        K53 σ59)
      else (
        fxL (fun (σ71 : FH) =>
            fxL (fx_si σ71 0 4 ((σ71.1 0 4) + 1)) <| fun (σ72 : FH) =>
            fX12_nextToken_109 K53 n61 σ72) <| fun J70 =>
        if 8 ≤ ((σ59.1 0 4) - (σ59.1 0 5)) then (
          J70 σ59)
        else (
          fxBP (fX12_signAt (σ59.1 0 4) σ59) <| fun (r75 : Int32) =>
          fxL (fx_sl σ59 0 7 ((((σ59.2.1 0 7) * 27) + (Int32.toInt64 r75)) - 96)) <| fun (σ77 : FH) =>
          J70 σ77)))
def fX12_nextToken_0 (K1 : FH → Option FH) : Nat → FH → Option FH
  | 0, _ => none
  | n82 + 1, σ80 =>
    if (σ80.1 0 3) ≤ (σ80.1 0 4) then (
      K1 σ80)
    else (
      fxG (fx_in (σ80.1 0 4) 1000 = true) <|
      fxL (
          fxL (fx_si σ80 0 4 ((σ80.1 0 4) + 1)) <| fun (σ86 : FH) =>
          fX12_nextToken_0 K1 n82 σ86) <| fun J85 =>
      if (σ80.1 1 (Int32.toNatClampNeg (σ80.1 0 4))) = 32 then (
        J85)
      else (
        fxG (fx_in (σ80.1 0 4) 1000 = true) <|
        if (σ80.1 1 (Int32.toNatClampNeg (σ80.1 0 4))) = 10 then (
          J85)
        else (
          K1 σ80)))
def fX12_nextToken  (σ : FH) : Option FH :=
  fxL (fun (σ2 : FH) =>
      fxL (fx_si σ2 0 5 (σ2.1 0 4)) <| fun (σ3 : FH) =>
      fxL (fx_sl σ3 0 7 0) <| fun (σ4 : FH) =>
      fxL (fx_si σ4 0 8 0) <| fun (σ5 : FH) =>
      if (σ5.1 0 4) = (σ5.1 0 3) then (
        fxL (fx_si σ5 0 6 0) <| fun (σ79 : FH) =>
        some σ79)
      else (
        fxG (fx_in (σ5.1 0 4) 1000 = true) <|
        fxL (α := Int32) (σ5.1 1 (Int32.toNatClampNeg (σ5.1 0 4))) <| fun (v8 : Int32) =>
        fxL (
            fxL (
                fxL (fx_si σ5 0 4 ((σ5.1 0 4) + 1)) <| fun (σ11 : FH) =>
                fxL (α := Int32) (if v8 < 40 then (if v8 = 45 then 3 else (if v8 < 59 then 4 else (if 61 < v8 then 4 else 3))) else (if v8 ≤ 43 then 3 else (if v8 = 45 then 3 else (if v8 < 59 then 4 else (if 61 < v8 then 4 else 3))))) <| fun (v12 : Int32) =>
                fxL (fx_si σ11 0 6 v12) <| fun (σ22 : FH) =>
                some σ22) <| fun J10 =>
            if v8 < 48 then (
              J10)
            else (
              if 57 < v8 then (
                J10)
              else (
                fxL (fun (σ26 : FH) =>
                    fxL (α := Int32) (if ((σ26.1 0 4) - (σ26.1 0 5)) ≤ 4 then 2 else 4) <| fun (v27 : Int32) =>
                    fxL (fx_si σ26 0 6 v27) <| fun (σ30 : FH) =>
                    some σ30) <| fun K25 =>
                fX12_nextToken_224 K25 FU σ5))) <| fun J9 =>
        if v8 < 97 then (
          J9)
        else (
          if 122 < v8 then (
            J9)
          else (
            fxL (fun (σ54 : FH) =>
                fxL (α := Int32) (if ((σ54.1 0 4) - (σ54.1 0 5)) ≤ 8 then 1 else 4) <| fun (v55 : Int32) =>
                fxL (fx_si σ54 0 6 v55) <| fun (σ58 : FH) =>
                some σ58) <| fun K53 =>
            fX12_nextToken_109 K53 FU σ5)))) <| fun K1 =>
  fX12_nextToken_0 K1 FU σ

def fX12_isWord (a1 : Int64) (σ : FH) : Option Int32 :=
  fxL (α := Int32) (if (σ.1 0 6) = 1 then (if (lg_cmp (σ.2.1 0 7) a1) = 0 then 1 else 0) else 0) <| fun (v1 : Int32) =>
  fxG (fx_bo v1 = true) <|
  some v1

def fX12_isSign (a1 : Int32) (σ : FH) : Option Int32 :=
  if (σ.1 0 6) = 3 then (
    fxG (fx_in (σ.1 0 5) 1000 = true) <|
    if (σ.1 1 (Int32.toNatClampNeg (σ.1 0 5))) = a1 then (
      some (1 : Int32))
    else (
      some (0 : Int32)))
  else (
    some (0 : Int32))

def fX12_fails (a1 : Int32) (σ : FH) : Option (Int32 × FH) :=
  fxL (fx_si σ 0 9 (a1 + (16 * (σ.1 0 5)))) <| fun (σ1 : FH) =>
  some ((0 : Int32), σ1)

def fX12_usual (a1 : Int32) (σ : FH) : Option FH :=
  fxG (fx_in ((3 * a1) + 0) 6 = true) <|
  fxL (fx_si σ 2 (Int32.toNatClampNeg ((3 * a1) + 0)) 0) <| fun (σ2 : FH) =>
  fxG (fx_in ((3 * a1) + 1) 6 = true) <|
  fxL (fx_si σ2 2 (Int32.toNatClampNeg ((3 * a1) + 1)) 0) <| fun (σ4 : FH) =>
  fxG (fx_in ((3 * a1) + 2) 6 = true) <|
  fxL (fx_si σ4 2 (Int32.toNatClampNeg ((3 * a1) + 2)) 2) <| fun (σ6 : FH) =>
  some σ6

def fX12_puts (a1 : Int32) (σ : FH) : Option FH :=
  fxG (fx_in (σ.1 0 21) 2000 = true) <|
  fxL (fx_si σ 12 (Int32.toNatClampNeg (σ.1 0 21)) a1) <| fun (σ2 : FH) =>
  fxL (fx_si σ2 0 21 ((σ2.1 0 21) + 1)) <| fun (σ3 : FH) =>
  some σ3

def fX12_fact  (σ : FH) : Option Int32 :=
  if (σ.1 0 6) = 1 then (
    if (lg_cmp (σ.2.1 0 7) 528) = 0 then (
      some (1 : Int32))
    else (
      if (lg_cmp (σ.2.1 0 7) 158523) = 0 then (
        some (2 : Int32))
      else (
        fxL (α := Int32) (if (lg_cmp (σ.2.1 0 7) 12001681) = 0 then 3 else (if (lg_cmp (σ.2.1 0 7) 80006) = 0 then 4 else 0)) <| fun (v4 : Int32) =>
        some v4)))
  else (
    some (0 : Int32))

def fX12_reads_379 (σ87 : FH) (K88 : Int32 → Option (Int32 × FH)) : Nat → Int32 → Option (Int32 × FH)
  | 0, _ => none
  | n95 + 1, w93 =>
    if w93 ≤ 0 then (
      K88 w93)
    else (
      fxG (fx_in w93 7 = true) <|
      if (σ87.1 13 (Int32.toNatClampNeg w93)) = 1 then (
        fX12_reads_379 σ87 K88 n95 (w93 + (-1)))
      else (
        K88 w93))
def fX12_reads_152 (σ158 : FH) (K159 : Int32 → Option (Int32 × FH)) : Nat → Int32 → Option (Int32 × FH)
  | 0, _ => none
  | n166 + 1, w164 =>
    if w164 ≤ 0 then (
      K159 w164)
    else (
      fxG (fx_in w164 7 = true) <|
      if (σ158.1 13 (Int32.toNatClampNeg w164)) = 1 then (
        fX12_reads_152 σ158 K159 n166 (w164 + (-1)))
      else (
        K159 w164))
def fX12_reads_11  : Nat → Int32 → Int32 → FH → Option (Int32 × FH)
  | 0, _, _, _ => none
  | n7 + 1, w3, w4, σ5 =>
    if w4 = 0 then (
      fxBP (fX12_isSign 43 σ5) <| fun (r10 : Int32) =>
      fxL (fun (x13 : Int32) (x14 : Int32) (σ15 : FH) =>
          fxBV (fX12_nextToken σ15) <| fun (σ18 : FH) =>
          fX12_reads_11 n7 x13 x14 σ18) <| fun J12 =>
      fxL (
          fxBP (fX12_isSign 43 σ5) <| fun (r21 : Int32) =>
          fxL (fun (y24 : Int32) =>
              fxBV (fX12_puts y24 σ5) <| fun (σ27 : FH) =>
              J12 w3 1 σ27) <| fun J23 =>
          if r21 = 0 then (
            fxBP (fX12_isSign 45 σ5) <| fun (r30 : Int32) =>
            if r30 = 0 then (
              J23 22)
            else (
              J23 21))
          else (
            J23 20)) <| fun J19 =>
      if r10 = 0 then (
        fxBP (fX12_isSign 45 σ5) <| fun (r35 : Int32) =>
        if r35 = 0 then (
          fxBP (fX12_isSign 42 σ5) <| fun (r39 : Int32) =>
          if r39 = 0 then (
            fxBP (fX12_isSign 60 σ5) <| fun (r43 : Int32) =>
            fxL (
                fxBP (fX12_isWord 1111 σ5) <| fun (r47 : Int32) =>
                fxL (
                    fxBP (fX12_isWord 1111 σ5) <| fun (r51 : Int32) =>
                    fxL (α := Int32) (if r51 = 0 then 27 else 26) <| fun (v53 : Int32) =>
                    fxBV (fX12_puts v53 σ5) <| fun (σ58 : FH) =>
                    fxG (fx_in w3 7 = true) <|
                    fxL (fx_si σ58 14 (Int32.toNatClampNeg w3) (vp_nar .boolean 0)) <| fun (σ60 : FH) =>
                    J12 w3 1 σ60) <| fun J49 =>
                if r47 = 0 then (
                  fxBP (fX12_isWord 423 σ5) <| fun (r63 : Int32) =>
                  if r63 = 0 then (
                    fxBP (fX12_isSign 41 σ5) <| fun (r67 : Int32) =>
                    fxL (
                        fxL (
                            fxBI (fX12_fails 1 σ5) <| fun (r72 : Int32) (σ73 : FH) =>
                            fxG (fx_bo r72 = true) <|
                            some (r72, σ73)) <| fun J70 =>
                        if w3 = 0 then (
                          fxBP (fX12_isSign 59 σ5) <| fun (r77 : Int32) =>
                          if r77 = 0 then (
                            J70)
                          else (
                            fxBV (fX12_nextToken σ5) <| fun (σ82 : FH) =>
                            some ((1 : Int32), σ82)))
                        else (
                          J70)) <| fun J69 =>
                    if r67 = 0 then (
                      J69)
                    else (
                      if w3 ≤ 0 then (
                        J69)
                      else (
                        fxBV (fX12_puts 29 σ5) <| fun (σ87 : FH) =>
                        fxL (fun (x89 : Int32) =>
                            fxBV (fX12_nextToken σ87) <| fun (σ92 : FH) =>
                            fX12_reads_11 n7 x89 w4 σ92) <| fun K88 =>
                        fX12_reads_379 σ87 K88 FU (w3 + (-1)))))
                  else (
                    J49))
                else (
                  J49)) <| fun J45 =>
            fxL (
                fxG (fx_in w3 7 = true) <|
                if (σ5.1 14 (Int32.toNatClampNeg w3)) = 0 then (
                  fxBP (fX12_isSign 60 σ5) <| fun (r104 : Int32) =>
                  fxL (α := Int32) (if r104 = 0 then 25 else 24) <| fun (v106 : Int32) =>
                  fxBV (fX12_puts v106 σ5) <| fun (σ111 : FH) =>
                  fxG (fx_in w3 7 = true) <|
                  fxL (fx_si σ111 14 (Int32.toNatClampNeg w3) (vp_nar .boolean 1)) <| fun (σ113 : FH) =>
                  J12 w3 1 σ113)
                else (
                  J45)) <| fun J100 =>
            if r43 = 0 then (
              fxBP (fX12_isSign 61 σ5) <| fun (r116 : Int32) =>
              if r116 = 0 then (
                J45)
              else (
                J100))
            else (
              J100))
          else (
            J19))
        else (
          J19))
      else (
        J19))
    else (
      fxBP (fX12_fact σ5) <| fun (r120 : Int32) =>
      fxBP (fX12_isWord 10631 σ5) <| fun (r123 : Int32) =>
      fxBP (fX12_isSign 40 σ5) <| fun (r126 : Int32) =>
      fxL (
          if w3 = 5 then (
            fxBI (fX12_fails 5 σ5) <| fun (r172 : Int32) (σ173 : FH) =>
            fxG (fx_bo r172 = true) <|
            some (r172, σ173))
          else (
            fxL (fun (x131 : Int32) (x132 : Int32) (σ133 : FH) =>
                fxBV (fX12_nextToken σ133) <| fun (σ136 : FH) =>
                fX12_reads_11 n7 x131 x132 σ136) <| fun J130 =>
            fxL (
                fxL (α := Int32) (if r123 = 0 then 28 else 30) <| fun (v138 : Int32) =>
                fxBV (fX12_puts v138 σ5) <| fun (σ143 : FH) =>
                fxL (α := Int32) (if r123 = 0 then 2 else 1) <| fun (v144 : Int32) =>
                fxG (fx_in (w3 + 1) 7 = true) <|
                fxL (fx_si σ143 13 (Int32.toNatClampNeg (w3 + 1)) v144) <| fun (σ148 : FH) =>
                fxG (fx_in (w3 + 1) 7 = true) <|
                fxL (fx_si σ148 14 (Int32.toNatClampNeg (w3 + 1)) (vp_nar .boolean 0)) <| fun (σ150 : FH) =>
                J130 (w3 + 1) w4 σ150) <| fun J137 =>
            if r123 = 0 then (
              if r126 = 0 then (
                fxL (α := Int32) (if r120 ≤ 0 then (100 + (σ5.1 0 8)) else r120) <| fun (v153 : Int32) =>
                fxBV (fX12_puts v153 σ5) <| fun (σ158 : FH) =>
                fxL (fun (x160 : Int32) =>
                    fxBV (fX12_nextToken σ158) <| fun (σ163 : FH) =>
                    fX12_reads_11 n7 x160 0 σ163) <| fun K159 =>
                fX12_reads_152 σ158 K159 FU w3)
              else (
                J137))
            else (
              J137))) <| fun J128 =>
      if r120 = 0 then (
        if r123 = 0 then (
          if r126 = 0 then (
            if (σ5.1 0 6) = 2 then (
              J128)
            else (
              fxBI (fX12_fails 1 σ5) <| fun (r180 : Int32) (σ181 : FH) =>
              fxG (fx_bo r180 = true) <|
              some (r180, σ181)))
          else (
            J128))
        else (
          J128))
      else (
        J128))
def fX12_reads  (σ : FH) : Option (Int32 × FH) :=
  fxG (fx_in 0 7 = true) <|
  fxL (fx_si σ 14 (Int32.toNatClampNeg 0) (vp_nar .boolean 0)) <| fun (σ2 : FH) =>
  fX12_reads_11 FU 0 1 σ2

def fX12_opens (a1 : Int32) (σ : FH) : Option FH :=
  fxG (fx_in a1 7 = true) <|
  fxL (fx_si σ 16 (Int32.toNatClampNeg a1) 0) <| fun (σ2 : FH) =>
  fxG (fx_in a1 7 = true) <|
  fxL (fx_si σ2 18 (Int32.toNatClampNeg a1) 0) <| fun (σ4 : FH) =>
  fxG (fx_in a1 7 = true) <|
  fxL (fx_si σ4 19 (Int32.toNatClampNeg a1) 0) <| fun (σ6 : FH) =>
  fxG (fx_in a1 7 = true) <|
  fxL (fx_si σ6 20 (Int32.toNatClampNeg a1) 20) <| fun (σ8 : FH) =>
  fxG (fx_in a1 7 = true) <|
  fxL (fx_si σ8 22 (Int32.toNatClampNeg a1) 0) <| fun (σ10 : FH) =>
  some σ10

def fX12_sums (a1 : Int32) (σ : FH) : Option FH :=
  fxG (fx_in a1 7 = true) <|
  fxL (fun (y3 : Int32) =>
      fxG (fx_in a1 7 = true) <|
      fxL (fx_si σ 19 (Int32.toNatClampNeg a1) y3) <| fun (σ5 : FH) =>
      fxG (fx_in a1 7 = true) <|
      fxL (fx_si σ5 22 (Int32.toNatClampNeg a1) 0) <| fun (σ7 : FH) =>
      some σ7) <| fun J2 =>
  if (σ.1 20 (Int32.toNatClampNeg a1)) = 21 then (
    fxG (fx_in a1 7 = true) <|
    fxG (fx_in a1 7 = true) <|
    J2 ((σ.1 19 (Int32.toNatClampNeg a1)) - (σ.1 21 (Int32.toNatClampNeg a1))))
  else (
    fxG (fx_in a1 7 = true) <|
    fxG (fx_in a1 7 = true) <|
    J2 ((σ.1 19 (Int32.toNatClampNeg a1)) + (σ.1 21 (Int32.toNatClampNeg a1))))

def fX12_tests (a1 : Int32) (σ : FH) : Option FH :=
  fxBV (fX12_sums a1 σ) <| fun (σ3 : FH) =>
  fxG (fx_in a1 7 = true) <|
  fxL (α := Int32) (σ3.1 19 (Int32.toNatClampNeg a1)) <| fun (v5 : Int32) =>
  fxG (fx_in a1 7 = true) <|
  fxL (fun (x8 : Int32) =>
      fxG (fx_in a1 7 = true) <|
      fxL (fun (x11 : Int32) =>
          fxG (fx_in a1 7 = true) <|
          fxL (fun (x14 : Int32) =>
              fxG (fx_in a1 7 = true) <|
              fxL (fun (x17 : Int32) =>
                  fxG (fx_in a1 7 = true) <|
                  fxL (fx_si σ3 15 (Int32.toNatClampNeg a1) x17) <| fun (σ19 : FH) =>
                  fxG (fx_in a1 7 = true) <|
                  fxL (fx_si σ19 18 (Int32.toNatClampNeg a1) 0) <| fun (σ21 : FH) =>
                  fxG (fx_in a1 7 = true) <|
                  fxL (fx_si σ21 19 (Int32.toNatClampNeg a1) 0) <| fun (σ23 : FH) =>
                  fxG (fx_in a1 7 = true) <|
                  fxL (fx_si σ23 20 (Int32.toNatClampNeg a1) 20) <| fun (σ25 : FH) =>
                  some σ25) <| fun J16 =>
              if (σ3.1 16 (Int32.toNatClampNeg a1)) = 27 then (
                fxG (fx_in a1 7 = true) <|
                fxL (α := Int32) (if (σ3.1 15 (Int32.toNatClampNeg a1)) = 0 then (if x14 = 0 then 0 else 1) else 1) <| fun (v28 : Int32) =>
                J16 v28)
              else (
                J16 x14)) <| fun J13 =>
          if (σ3.1 16 (Int32.toNatClampNeg a1)) = 26 then (
            fxG (fx_in a1 7 = true) <|
            fxL (α := Int32) (if (σ3.1 15 (Int32.toNatClampNeg a1)) = 0 then 0 else (if x11 = 0 then 0 else 1)) <| fun (v34 : Int32) =>
            J13 v34)
          else (
            J13 x11)) <| fun J10 =>
      if (σ3.1 18 (Int32.toNatClampNeg a1)) = 25 then (
        fxG (fx_in a1 7 = true) <|
        fxG (fx_in a1 7 = true) <|
        fxL (α := Int32) (if (σ3.1 17 (Int32.toNatClampNeg a1)) = (σ3.1 19 (Int32.toNatClampNeg a1)) then 1 else 0) <| fun (v41 : Int32) =>
        J10 v41)
      else (
        J10 x8)) <| fun J7 =>
  if (σ3.1 18 (Int32.toNatClampNeg a1)) = 24 then (
    fxG (fx_in a1 7 = true) <|
    fxG (fx_in a1 7 = true) <|
    fxL (α := Int32) (if (σ3.1 19 (Int32.toNatClampNeg a1)) ≤ (σ3.1 17 (Int32.toNatClampNeg a1)) then 0 else 1) <| fun (v47 : Int32) =>
    J7 v47)
  else (
    J7 v5)

def fX12_worked_268 (σ69 : FH) (K70 : Int32 → Int32 → Option (Int32 × FH)) : Nat → Int32 → Int32 → Option (Int32 × FH)
  | 0, _, _ => none
  | n83 + 1, w80, w81 =>
    if w80 ≤ 0 then (
      K70 w80 w81)
    else (
      fxG (fx_in w80 7 = true) <|
      if (σ69.1 23 (Int32.toNatClampNeg w80)) = 1 then (
        fxL (α := Int32) (if w81 = 0 then 1 else 0) <| fun (v87 : Int32) =>
        fX12_worked_268 σ69 K70 n83 (w80 + (-1)) v87)
      else (
        K70 w80 w81))
def fX12_worked_14 (a1 : Int32) (K6 : FH → Option (Int32 × FH)) : Nat → Int32 → Int32 → FH → Option (Int32 × FH)
  | 0, _, _, _ => none
  | n16 + 1, w12, w13, σ14 =>
    fxG (fx_in a1 2 = true) <|
    if (σ14.1 11 (Int32.toNatClampNeg a1)) ≤ w13 then (
      K6 σ14)
    else (
      fxG (fx_in w13 2000 = true) <|
      fxL (α := Int32) (σ14.1 12 (Int32.toNatClampNeg w13)) <| fun (v20 : Int32) =>
      fxL (
          fxL (α := Int32) (if v20 = 30 then 1 else 0) <| fun (v22 : Int32) =>
          fxG (fx_in (w12 + 1) 7 = true) <|
          fxL (fx_si σ14 23 (Int32.toNatClampNeg (w12 + 1)) v22) <| fun (σ26 : FH) =>
          fxBV (fX12_opens (w12 + 1) σ26) <| fun (σ29 : FH) =>
          fX12_worked_14 a1 K6 n16 (w12 + 1) (w13 + 1) σ29) <| fun J21 =>
      if v20 = 28 then (
        J21)
      else (
        if v20 = 30 then (
          J21)
        else (
          fxL (
              fxBV (fX12_sums w12 σ14) <| fun (σ35 : FH) =>
              fxG (fx_in w12 7 = true) <|
              fxL (fx_si σ35 20 (Int32.toNatClampNeg w12) v20) <| fun (σ37 : FH) =>
              fX12_worked_14 a1 K6 n16 w12 (w13 + 1) σ37) <| fun J32 =>
          if v20 = 20 then (
            J32)
          else (
            if v20 = 21 then (
              J32)
            else (
              if v20 = 22 then (
                fxG (fx_in w12 7 = true) <|
                fxL (fx_si σ14 22 (Int32.toNatClampNeg w12) v20) <| fun (σ101 : FH) =>
                fX12_worked_14 a1 K6 n16 w12 (w13 + 1) σ101)
              else (
                fxL (
                    fxBV (fX12_sums w12 σ14) <| fun (σ44 : FH) =>
                    fxG (fx_in w12 7 = true) <|
                    fxG (fx_in w12 7 = true) <|
                    fxL (fx_si σ44 17 (Int32.toNatClampNeg w12) (σ44.1 19 (Int32.toNatClampNeg w12))) <| fun (σ47 : FH) =>
                    fxG (fx_in w12 7 = true) <|
                    fxL (fx_si σ47 18 (Int32.toNatClampNeg w12) v20) <| fun (σ49 : FH) =>
                    fxG (fx_in w12 7 = true) <|
                    fxL (fx_si σ49 19 (Int32.toNatClampNeg w12) 0) <| fun (σ51 : FH) =>
                    fxG (fx_in w12 7 = true) <|
                    fxL (fx_si σ51 20 (Int32.toNatClampNeg w12) 20) <| fun (σ53 : FH) =>
                    fX12_worked_14 a1 K6 n16 w12 (w13 + 1) σ53) <| fun J41 =>
                if v20 = 24 then (
                  J41)
                else (
                  if v20 = 25 then (
                    J41)
                  else (
                    fxL (
                        fxBV (fX12_tests w12 σ14) <| fun (σ59 : FH) =>
                        fxG (fx_in w12 7 = true) <|
                        fxL (fx_si σ59 16 (Int32.toNatClampNeg w12) v20) <| fun (σ61 : FH) =>
                        fX12_worked_14 a1 K6 n16 w12 (w13 + 1) σ61) <| fun J56 =>
                    if v20 = 26 then (
                      J56)
                    else (
                      if v20 = 27 then (
                        J56)
                      else (
                        fxL (fun (y65 : Int32) =>
                            fxL (fun (x67 : Int32) (x68 : Int32) (σ69 : FH) =>
                                fxL (fun (x71 : Int32) (x72 : Int32) =>
                                    fxG (fx_in x71 7 = true) <|
                                    fxL (fun (y75 : Int32) =>
                                        fxG (fx_in x71 7 = true) <|
                                        fxL (fx_si σ69 21 (Int32.toNatClampNeg x71) y75) <| fun (σ77 : FH) =>
                                        fX12_worked_14 a1 K6 n16 x71 (w13 + 1) σ77) <| fun J74 =>
                                    if (σ69.1 22 (Int32.toNatClampNeg x71)) = 0 then (
                                      J74 x72)
                                    else (
                                      fxG (fx_in x71 7 = true) <|
                                      J74 ((σ69.1 21 (Int32.toNatClampNeg x71)) * x72))) <| fun K70 =>
                                fX12_worked_268 σ69 K70 FU x67 x68) <| fun J66 =>
                            if v20 = 29 then (
                              fxBV (fX12_tests w12 σ14) <| fun (σ94 : FH) =>
                              fxG (fx_in w12 7 = true) <|
                              fxL (α := Int32) (σ94.1 15 (Int32.toNatClampNeg w12)) <| fun (v96 : Int32) =>
                              J66 (w12 + (-1)) v96 σ94)
                            else (
                              J66 w12 y65 σ14)) <| fun J64 =>
                        if v20 < 100 then (
                          if 20 ≤ v20 then (
                            J64 0)
                          else (
                            fxG (fx_in v20 20 = true) <|
                            J64 (σ14.1 24 (Int32.toNatClampNeg v20))))
                        else (
                          J64 (v20 - 100))))))))))))
def fX12_worked (a1 : Int32) (σ : FH) : Option (Int32 × FH) :=
  fxBV (fX12_opens 0 σ) <| fun (σ3 : FH) =>
  fxG (fx_in a1 2 = true) <|
  fxL (α := Int32) (σ3.1 10 (Int32.toNatClampNeg a1)) <| fun (v5 : Int32) =>
  fxL (fun (σ7 : FH) =>
      fxBV (fX12_tests 0 σ7) <| fun (σ10 : FH) =>
      fxG (fx_in 0 7 = true) <|
      some ((σ10.1 15 (Int32.toNatClampNeg 0)), σ10)) <| fun K6 =>
  fX12_worked_14 a1 K6 FU 0 v5 σ3

def fX12_isKept  (σ : FH) : Option Int32 :=
  if (σ.1 0 6) = 1 then (
    fxL (α := Int32) (if (lg_cmp (σ.2.1 0 7) 453929) = 0 then 1 else (if (lg_cmp (σ.2.1 0 7) 12391871) = 0 then 1 else (if (lg_cmp (σ.2.1 0 7) 90050) = 0 then 1 else (if (lg_cmp (σ.2.1 0 7) 8536426) = 0 then 1 else (if (lg_cmp (σ.2.1 0 7) 10197082) = 0 then 1 else (if (lg_cmp (σ.2.1 0 7) 4797) = 0 then 1 else (if (lg_cmp (σ.2.1 0 7) 125042) = 0 then 1 else (if (lg_cmp (σ.2.1 0 7) 12531826) = 0 then 1 else (if (lg_cmp (σ.2.1 0 7) 464141) = 0 then 1 else (if (lg_cmp (σ.2.1 0 7) 388978) = 0 then 1 else (if (lg_cmp (σ.2.1 0 7) 208022) = 0 then 1 else (if (lg_cmp (σ.2.1 0 7) 240223) = 0 then 1 else (if (lg_cmp (σ.2.1 0 7) 456500) = 0 then 1 else (if (lg_cmp (σ.2.1 0 7) 8740238) = 0 then 1 else (if (lg_cmp (σ.2.1 0 7) 38444009) = 0 then 1 else (if (lg_cmp (σ.2.1 0 7) 175252482) = 0 then 1 else (if (lg_cmp (σ.2.1 0 7) 1841546) = 0 then 1 else (if (lg_cmp (σ.2.1 0 7) 10631) = 0 then 1 else (if (lg_cmp (σ.2.1 0 7) 1111) = 0 then 1 else (if (lg_cmp (σ.2.1 0 7) 423) = 0 then 1 else 0)))))))))))))))))))) <| fun (v2 : Int32) =>
    fxG (fx_bo v2 = true) <|
    some v2)
  else (
    some (1 : Int32))

def fX12_wareNamed_5 (a1 : Int32) (σ : FH) (K2 : Option Int32) : Nat → Int32 → Option Int32
  | 0, _ => none
  | n5 + 1, w3 =>
    fxG (fx_in ((3 * a1) + 0) 6 = true) <|
    if ((6 * a1) + (σ.1 2 (Int32.toNatClampNeg ((3 * a1) + 0)))) ≤ w3 then (
      K2)
    else (
      fxG (fx_in w3 12 = true) <|
      if (lg_cmp (σ.2.1 3 (Int32.toNatClampNeg w3)) (σ.2.1 0 7)) = 0 then (
        some (w3 - (6 * a1)))
      else (
        fX12_wareNamed_5 a1 σ K2 n5 (w3 + 1)))
def fX12_wareNamed (a1 : Int32) (σ : FH) : Option Int32 :=
  fxL (α := Int32) (6 * a1) <| fun (v1 : Int32) =>
  fxL (
      some ((-1) : Int32)) <| fun K2 =>
  fX12_wareNamed_5 a1 σ K2 FU v1

def fX12_partyNamed_4 (a1 : Int32) (σ : FH) (K2 : Option Int32) : Nat → Int32 → Option Int32
  | 0, _ => none
  | n5 + 1, w3 =>
    fxG (fx_in ((3 * a1) + 1) 6 = true) <|
    if ((5 * a1) + (σ.1 2 (Int32.toNatClampNeg ((3 * a1) + 1)))) ≤ w3 then (
      K2)
    else (
      fxG (fx_in w3 10 = true) <|
      if (lg_cmp (σ.2.1 4 (Int32.toNatClampNeg w3)) (σ.2.1 0 7)) = 0 then (
        some (w3 - (5 * a1)))
      else (
        fX12_partyNamed_4 a1 σ K2 n5 (w3 + 1)))
def fX12_partyNamed (a1 : Int32) (σ : FH) : Option Int32 :=
  fxL (α := Int32) (5 * a1) <| fun (v1 : Int32) =>
  fxL (
      some ((-1) : Int32)) <| fun K2 =>
  fX12_partyNamed_4 a1 σ K2 FU v1

def fX12_needsNumber (a1 : Int32) (a2 : Int32) (σ : FH) : Option (Int32 × FH) :=
  if (σ.1 0 6) = 2 then (
    fxBP (fX12_within (σ.1 0 8) a1 a2 σ) <| fun (r3 : Int32) =>
    if r3 = 0 then (
      fxBI (fX12_fails 4 σ) <| fun (r11 : Int32) (σ12 : FH) =>
      fxG (fx_bo r11 = true) <|
      some (r11, σ12))
    else (
      fxL (fx_si σ 0 35 (σ.1 0 8)) <| fun (σ6 : FH) =>
      fxBV (fX12_nextToken σ6) <| fun (σ9 : FH) =>
      some ((1 : Int32), σ9)))
  else (
    fxBI (fX12_fails 1 σ) <| fun (r15 : Int32) (σ16 : FH) =>
    fxG (fx_bo r15 = true) <|
    some (r15, σ16))

def fX12_needsBoth (a1 : Int64) (a3 : Int32) (a4 : Int32) (σ : FH) : Option (Int32 × FH) :=
  fxBP (fX12_isWord a1 σ) <| fun (r2 : Int32) =>
  if r2 = 0 then (
    fxBI (fX12_fails 1 σ) <| fun (r13 : Int32) (σ14 : FH) =>
    fxG (fx_bo r13 = true) <|
    some (r13, σ14))
  else (
    fxBV (fX12_nextToken σ) <| fun (σ7 : FH) =>
    fxBI (fX12_needsNumber a3 a4 σ7) <| fun (r9 : Int32) (σ10 : FH) =>
    fxG (fx_bo r9 = true) <|
    some (r9, σ10))

def fX12_closes  (σ : FH) : Option (Int32 × FH) :=
  fxBP (fX12_isSign 59 σ) <| fun (r2 : Int32) =>
  if r2 = 0 then (
    fxBI (fX12_fails 1 σ) <| fun (r9 : Int32) (σ10 : FH) =>
    fxG (fx_bo r9 = true) <|
    some (r9, σ10))
  else (
    fxBV (fX12_nextToken σ) <| fun (σ7 : FH) =>
    some ((1 : Int32), σ7))

def fX12_needsNew  (σ : FH) : Option (Int32 × FH) :=
  fxBP (fX12_isKept σ) <| fun (r2 : Int32) =>
  if r2 = 0 then (
    fxBP (fX12_wareNamed 1 σ) <| fun (r6 : Int32) =>
    fxL (
        fxBI (fX12_fails 3 σ) <| fun (r10 : Int32) (σ11 : FH) =>
        fxG (fx_bo r10 = true) <|
        some (r10, σ11)) <| fun J8 =>
    if 0 ≤ r6 then (
      J8)
    else (
      fxBP (fX12_partyNamed 1 σ) <| fun (r15 : Int32) =>
      if r15 < 0 then (
        fxL (fx_sl σ 0 36 (σ.2.1 0 7)) <| fun (σ18 : FH) =>
        fxBV (fX12_nextToken σ18) <| fun (σ21 : FH) =>
        some ((1 : Int32), σ21))
      else (
        J8)))
  else (
    fxBI (fX12_fails 1 σ) <| fun (r23 : Int32) (σ24 : FH) =>
    fxG (fx_bo r23 = true) <|
    some (r23, σ24))

def fX12_needsWare (a1 : Int32) (σ : FH) : Option (Int32 × FH) :=
  fxBP (fX12_isKept σ) <| fun (r2 : Int32) =>
  if r2 = 0 then (
    fxBP (fX12_wareNamed a1 σ) <| fun (r6 : Int32) =>
    fxL (fx_si σ 0 35 r6) <| fun (σ8 : FH) =>
    if 0 ≤ (σ8.1 0 35) then (
      some ((1 : Int32), σ8))
    else (
      fxBI (fX12_fails 2 σ8) <| fun (r11 : Int32) (σ12 : FH) =>
      if r11 = 0 then (
        some ((0 : Int32), σ12))
      else (
        some ((1 : Int32), σ12))))
  else (
    fxBI (fX12_fails 1 σ) <| fun (r15 : Int32) (σ16 : FH) =>
    fxG (fx_bo r15 = true) <|
    some (r15, σ16))

def fX12_needsParty (a1 : Int32) (σ : FH) : Option (Int32 × FH) :=
  fxBP (fX12_isKept σ) <| fun (r2 : Int32) =>
  if r2 = 0 then (
    fxBP (fX12_partyNamed a1 σ) <| fun (r6 : Int32) =>
    fxL (fx_si σ 0 35 r6) <| fun (σ8 : FH) =>
    if 0 ≤ (σ8.1 0 35) then (
      some ((1 : Int32), σ8))
    else (
      fxBI (fX12_fails 2 σ8) <| fun (r11 : Int32) (σ12 : FH) =>
      if r11 = 0 then (
        some ((0 : Int32), σ12))
      else (
        some ((1 : Int32), σ12))))
  else (
    fxBI (fX12_fails 1 σ) <| fun (r15 : Int32) (σ16 : FH) =>
    fxG (fx_bo r15 = true) <|
    some (r15, σ16))

def fX12_readsWare  (σ : FH) : Option (Int32 × FH) :=
  fxG (fx_in 3 6 = true) <|
  fxL (α := Int32) (6 + (σ.1 2 (Int32.toNatClampNeg 3))) <| fun (v2 : Int32) =>
  if v2 = 12 then (
    fxBI (fX12_fails 5 σ) <| fun (r63 : Int32) (σ64 : FH) =>
    fxG (fx_bo r63 = true) <|
    some (r63, σ64))
  else (
    fxBV (fX12_nextToken σ) <| fun (σ6 : FH) =>
    fxBI (fX12_needsNew σ6) <| fun (r8 : Int32) (σ9 : FH) =>
    if r8 = 0 then (
      some ((0 : Int32), σ9))
    else (
      fxBP (fX12_isWord 8740238 σ9) <| fun (r12 : Int32) =>
      fxL (fun (y15 : Int32) =>
          fxG (fx_in v2 12 = true) <|
          fxL (fx_si σ9 5 (Int32.toNatClampNeg v2) y15) <| fun (σ17 : FH) =>
          fxG (fx_in v2 12 = true) <|
          if 0 ≤ (σ17.1 5 (Int32.toNatClampNeg v2)) then (
            fxBV (fX12_nextToken σ17) <| fun (σ22 : FH) =>
            fxBI (fX12_needsBoth 12391871 2 60 σ22) <| fun (r24 : Int32) (σ25 : FH) =>
            if r24 = 0 then (
              some ((0 : Int32), σ25))
            else (
              fxG (fx_in v2 12 = true) <|
              fxL (fx_si σ25 6 (Int32.toNatClampNeg v2) (σ25.1 0 35)) <| fun (σ28 : FH) =>
              fxBI (fX12_needsBoth 90050 0 30 σ28) <| fun (r30 : Int32) (σ31 : FH) =>
              if r30 = 0 then (
                some ((0 : Int32), σ31))
              else (
                fxG (fx_in v2 12 = true) <|
                fxG (fx_in v2 12 = true) <|
                fxL (fx_si σ31 7 (Int32.toNatClampNeg v2) (if ((σ31.1 6 (Int32.toNatClampNeg v2)) / 2) < (σ31.1 0 35) then ((σ31.1 6 (Int32.toNatClampNeg v2)) / 2) else (σ31.1 0 35))) <| fun (σ35 : FH) =>
                fxG (fx_in v2 12 = true) <|
                fxL (fx_sl σ35 3 (Int32.toNatClampNeg v2) (σ35.2.1 0 36)) <| fun (σ37 : FH) =>
                fxG (fx_in 3 6 = true) <|
                fxG (fx_in 3 6 = true) <|
                fxL (fx_si σ37 2 (Int32.toNatClampNeg 3) ((σ37.1 2 (Int32.toNatClampNeg 3)) + 1)) <| fun (σ40 : FH) =>
                fxBI (fX12_closes σ40) <| fun (r42 : Int32) (σ43 : FH) =>
                fxG (fx_bo r42 = true) <|
                some (r42, σ43))))
          else (
            fxBI (fX12_fails 1 σ17) <| fun (r46 : Int32) (σ47 : FH) =>
            fxG (fx_bo r46 = true) <|
            some (r46, σ47))) <| fun J14 =>
      if r12 = 0 then (
        fxBP (fX12_isWord 38444009 σ9) <| fun (r51 : Int32) =>
        if r51 = 0 then (
          fxBP (fX12_isWord 175252482 σ9) <| fun (r55 : Int32) =>
          if r55 = 0 then (
            fxBP (fX12_isWord 1841546 σ9) <| fun (r59 : Int32) =>
            if r59 = 0 then (
              J14 (-1))
            else (
              J14 3))
          else (
            J14 2))
        else (
          J14 1))
      else (
        J14 0)))

def fX12_readsParty  (σ : FH) : Option (Int32 × FH) :=
  fxG (fx_in 4 6 = true) <|
  fxL (α := Int32) (5 + (σ.1 2 (Int32.toNatClampNeg 4))) <| fun (v2 : Int32) =>
  if v2 = 10 then (
    fxBI (fX12_fails 5 σ) <| fun (r29 : Int32) (σ30 : FH) =>
    fxG (fx_bo r29 = true) <|
    some (r29, σ30))
  else (
    fxBV (fX12_nextToken σ) <| fun (σ6 : FH) =>
    fxBI (fX12_needsNew σ6) <| fun (r8 : Int32) (σ9 : FH) =>
    if r8 = 0 then (
      some ((0 : Int32), σ9))
    else (
      fxBI (fX12_needsBoth 10197082 0 40 σ9) <| fun (r12 : Int32) (σ13 : FH) =>
      if r12 = 0 then (
        some ((0 : Int32), σ13))
      else (
        fxG (fx_in v2 10 = true) <|
        fxL (fx_si σ13 8 (Int32.toNatClampNeg v2) (σ13.1 0 35)) <| fun (σ16 : FH) =>
        fxG (fx_in v2 10 = true) <|
        fxL (fx_si σ16 9 (Int32.toNatClampNeg v2) 0) <| fun (σ18 : FH) =>
        fxG (fx_in v2 10 = true) <|
        fxL (fx_sl σ18 4 (Int32.toNatClampNeg v2) (σ18.2.1 0 36)) <| fun (σ20 : FH) =>
        fxG (fx_in 4 6 = true) <|
        fxG (fx_in 4 6 = true) <|
        fxL (fx_si σ20 2 (Int32.toNatClampNeg 4) ((σ20.1 2 (Int32.toNatClampNeg 4)) + 1)) <| fun (σ23 : FH) =>
        fxBI (fX12_closes σ23) <| fun (r25 : Int32) (σ26 : FH) =>
        fxG (fx_bo r25 = true) <|
        some (r25, σ26))))

def fX12_readsFor  (σ : FH) : Option (Int32 × FH) :=
  fxBV (fX12_nextToken σ) <| fun (σ3 : FH) =>
  fxBI (fX12_needsParty 1 σ3) <| fun (r5 : Int32) (σ6 : FH) =>
  if r5 = 0 then (
    some ((0 : Int32), σ6))
  else (
    fxL (α := Int32) (5 + (σ6.1 0 35)) <| fun (v8 : Int32) =>
    fxBV (fX12_nextToken σ6) <| fun (σ11 : FH) =>
    fxBI (fX12_needsWare 1 σ11) <| fun (r13 : Int32) (σ14 : FH) =>
    if r13 = 0 then (
      some ((0 : Int32), σ14))
    else (
      fxG (fx_in v8 10 = true) <|
      if (((σ14.1 9 (Int32.toNatClampNeg v8)) >>> ((σ14.1 0 35) &&& 31)) &&& 1) = 1 then (
        fxBI (fX12_fails 3 σ14) <| fun (r29 : Int32) (σ30 : FH) =>
        fxG (fx_bo r29 = true) <|
        some (r29, σ30))
      else (
        fxG (fx_in v8 10 = true) <|
        fxG (fx_in v8 10 = true) <|
        fxL (fx_si σ14 9 (Int32.toNatClampNeg v8) ((σ14.1 9 (Int32.toNatClampNeg v8)) ||| (1 <<< ((σ14.1 0 35) &&& 31)))) <| fun (σ20 : FH) =>
        fxBV (fX12_nextToken σ20) <| fun (σ23 : FH) =>
        fxBI (fX12_closes σ23) <| fun (r25 : Int32) (σ26 : FH) =>
        fxG (fx_bo r25 = true) <|
        some (r25, σ26))))

def fX12_readsFine  (σ : FH) : Option (Int32 × FH) :=
  if (σ.1 0 22) = 0 then (
    fxL (fx_si σ 0 22 1) <| fun (σ2 : FH) =>
    fxBV (fX12_nextToken σ2) <| fun (σ5 : FH) =>
    fxBI (fX12_needsNumber 1 9 σ5) <| fun (r7 : Int32) (σ8 : FH) =>
    if r7 = 0 then (
      some ((0 : Int32), σ8))
    else (
      fxG (fx_in 5 6 = true) <|
      fxL (fx_si σ8 2 (Int32.toNatClampNeg 5) (σ8.1 0 35)) <| fun (σ11 : FH) =>
      fxBI (fX12_closes σ11) <| fun (r13 : Int32) (σ14 : FH) =>
      fxG (fx_bo r13 = true) <|
      some (r13, σ14)))
  else (
    fxBI (fX12_fails 3 σ) <| fun (r17 : Int32) (σ18 : FH) =>
    fxG (fx_bo r17 = true) <|
    some (r17, σ18))

def fX12_readsWorks  (σ : FH) : Option (Int32 × FH) :=
  fxG (fx_in 1 2 = true) <|
  fxG (fx_in 1 2 = true) <|
  if (σ.1 11 (Int32.toNatClampNeg 1)) ≤ (σ.1 10 (Int32.toNatClampNeg 1)) then (
    fxBV (fX12_nextToken σ) <| fun (σ6 : FH) =>
    fxG (fx_in 1 2 = true) <|
    fxL (fx_si σ6 10 (Int32.toNatClampNeg 1) (σ6.1 0 21)) <| fun (σ8 : FH) =>
    fxBI (fX12_reads σ8) <| fun (r10 : Int32) (σ11 : FH) =>
    if r10 = 0 then (
      some ((0 : Int32), σ11))
    else (
      fxG (fx_in 1 2 = true) <|
      fxL (fx_si σ11 11 (Int32.toNatClampNeg 1) (σ11.1 0 21)) <| fun (σ14 : FH) =>
      some ((1 : Int32), σ14)))
  else (
    fxBI (fX12_fails 3 σ) <| fun (r16 : Int32) (σ17 : FH) =>
    fxG (fx_bo r16 = true) <|
    some (r16, σ17))

def fX12_begins  (σ : FH) : Option FH :=
  fxL (fx_si σ 0 3 (σ.1 0 1)) <| fun (σ1 : FH) =>
  fxL (fx_si σ1 0 1 0) <| fun (σ2 : FH) =>
  fxL (fx_si σ2 0 4 0) <| fun (σ3 : FH) =>
  fxBV (fX12_nextToken σ3) <| fun (σ6 : FH) =>
  some σ6

def fX12_readsAll_39 (K13 : FH → Option (Int32 × FH)) : Nat → FH → Option (Int32 × FH)
  | 0, _ => none
  | n17 + 1, σ15 =>
    if (σ15.1 0 6) = 0 then (
      K13 σ15)
    else (
      fxBP (fX12_isWord 453929 σ15) <| fun (r20 : Int32) =>
      fxL (fun (y23 : Int32) (σ24 : FH) =>
          if y23 = 0 then (
            some ((0 : Int32), σ24))
          else (
            fX12_readsAll_39 K13 n17 σ24)) <| fun J22 =>
      if r20 = 0 then (
        fxBP (fX12_isWord 8536426 σ15) <| fun (r28 : Int32) =>
        if r28 = 0 then (
          fxBP (fX12_isWord 4797 σ15) <| fun (r32 : Int32) =>
          if r32 = 0 then (
            fxBP (fX12_isWord 125042 σ15) <| fun (r36 : Int32) =>
            if r36 = 0 then (
              fxBP (fX12_isWord 12531826 σ15) <| fun (r40 : Int32) =>
              if r40 = 0 then (
                fxBI (fX12_fails 1 σ15) <| fun (r44 : Int32) (σ45 : FH) =>
                J22 r44 σ45)
              else (
                fxBI (fX12_readsWorks σ15) <| fun (r47 : Int32) (σ48 : FH) =>
                J22 r47 σ48))
            else (
              fxBI (fX12_readsFine σ15) <| fun (r50 : Int32) (σ51 : FH) =>
              J22 r50 σ51))
          else (
            fxBI (fX12_readsFor σ15) <| fun (r53 : Int32) (σ54 : FH) =>
            J22 r53 σ54))
        else (
          fxBI (fX12_readsParty σ15) <| fun (r56 : Int32) (σ57 : FH) =>
          J22 r56 σ57))
      else (
        fxBI (fX12_readsWare σ15) <| fun (r59 : Int32) (σ60 : FH) =>
        J22 r59 σ60))
def fX12_readsAll  (σ : FH) : Option (Int32 × FH) :=
  fxBV (fX12_usual 1 σ) <| fun (σ3 : FH) =>
  fxG (fx_in 1 2 = true) <|
  fxL (fx_si σ3 10 (Int32.toNatClampNeg 1) 1000) <| fun (σ5 : FH) =>
  fxG (fx_in 1 2 = true) <|
  fxL (fx_si σ5 11 (Int32.toNatClampNeg 1) 1000) <| fun (σ7 : FH) =>
  fxL (fx_si σ7 0 22 0) <| fun (σ8 : FH) =>
  fxL (fx_si σ8 0 21 1000) <| fun (σ9 : FH) =>
  fxBV (fX12_begins σ9) <| fun (σ12 : FH) =>
  fxL (fun (σ14 : FH) =>
      some ((1 : Int32), σ14)) <| fun K13 =>
  fX12_readsAll_39 K13 FU σ12

def fX12_shifts_2 (a0 : Nat) (na0 : Nat) (a1 : Int32) (K1 : FH → Option FH) : Nat → Int32 → FH → Option FH
  | 0, _, _ => none
  | n6 + 1, w3, σ4 =>
    if a1 ≤ w3 then (
      K1 σ4)
    else (
      fxG (fx_in (a1 + w3) na0 = true) <|
      fxG (fx_in w3 na0 = true) <|
      fxL (fx_si σ4 a0 (Int32.toNatClampNeg w3) (σ4.1 a0 (Int32.toNatClampNeg (a1 + w3)))) <| fun (σ10 : FH) =>
      fX12_shifts_2 a0 na0 a1 K1 n6 (w3 + 1) σ10)
def fX12_shifts (a0 : Nat) (na0 : Nat) (a1 : Int32) (σ : FH) : Option FH :=
  fxG (LM[a0]? = some (20, na0)) <|
  fxL (fun (σ2 : FH) =>
      some σ2) <| fun K1 =>
  fX12_shifts_2 a0 na0 a1 K1 FU 0 σ

def fX12_shiftsNames_2 (a0 : Nat) (na0 : Nat) (a1 : Int32) (K1 : FH → Option FH) : Nat → Int32 → FH → Option FH
  | 0, _, _ => none
  | n6 + 1, w3, σ4 =>
    if a1 ≤ w3 then (
      K1 σ4)
    else (
      fxG (fx_in (a1 + w3) na0 = true) <|
      fxG (fx_in w3 na0 = true) <|
      fxL (fx_sl σ4 a0 (Int32.toNatClampNeg w3) (σ4.2.1 a0 (Int32.toNatClampNeg (a1 + w3)))) <| fun (σ10 : FH) =>
      fX12_shiftsNames_2 a0 na0 a1 K1 n6 (w3 + 1) σ10)
def fX12_shiftsNames (a0 : Nat) (na0 : Nat) (a1 : Int32) (σ : FH) : Option FH :=
  fxG (LM[a0]? = some (21, na0)) <|
  fxL (fun (σ2 : FH) =>
      some σ2) <| fun K1 =>
  fX12_shiftsNames_2 a0 na0 a1 K1 FU 0 σ

def fX12_lays  (σ : FH) : Option FH :=
  fxBV (fX12_shifts 2 6 3 σ) <| fun (σ3 : FH) =>
  fxBV (fX12_shiftsNames 3 12 6 σ3) <| fun (σ6 : FH) =>
  fxBV (fX12_shiftsNames 4 10 5 σ6) <| fun (σ9 : FH) =>
  fxBV (fX12_shifts 5 12 6 σ9) <| fun (σ12 : FH) =>
  fxBV (fX12_shifts 6 12 6 σ12) <| fun (σ15 : FH) =>
  fxBV (fX12_shifts 7 12 6 σ15) <| fun (σ18 : FH) =>
  fxBV (fX12_shifts 8 10 5 σ18) <| fun (σ21 : FH) =>
  fxBV (fX12_shifts 9 10 5 σ21) <| fun (σ24 : FH) =>
  fxBV (fX12_shifts 12 2000 1000 σ24) <| fun (σ27 : FH) =>
  fxG (fx_in 1 2 = true) <|
  fxG (fx_in 0 2 = true) <|
  fxL (fx_si σ27 10 (Int32.toNatClampNeg 0) ((σ27.1 10 (Int32.toNatClampNeg 1)) - 1000)) <| fun (σ30 : FH) =>
  fxG (fx_in 1 2 = true) <|
  fxG (fx_in 0 2 = true) <|
  fxL (fx_si σ30 11 (Int32.toNatClampNeg 0) ((σ30.1 11 (Int32.toNatClampNeg 1)) - 1000)) <| fun (σ33 : FH) =>
  some σ33

def fX12_copies_3 (a0 : Nat) (na0 : Nat) (a1 : Int32) (a2 : Nat) (na2 : Nat) (a3 : Int32) (K1 : FH → Option FH) : Nat → Int32 → FH → Option FH
  | 0, _, _ => none
  | n6 + 1, w3, σ4 =>
    if 14 ≤ w3 then (
      K1 σ4)
    else (
      fxG (fx_in (a1 + w3) na0 = true) <|
      fxG (fx_in (a3 + w3) na2 = true) <|
      fxL (fx_si σ4 a2 (Int32.toNatClampNeg (a3 + w3)) (σ4.1 a0 (Int32.toNatClampNeg (a1 + w3)))) <| fun (σ10 : FH) =>
      fX12_copies_3 a0 na0 a1 a2 na2 a3 K1 n6 (w3 + 1) σ10)
def fX12_copies (a0 : Nat) (na0 : Nat) (a1 : Int32) (a2 : Nat) (na2 : Nat) (a3 : Int32) (σ : FH) : Option FH :=
  fxG (LM[a0]? = some (20, na0)) <|
  fxG (LM[a2]? = some (20, na2)) <|
  fxL (fun (σ2 : FH) =>
      some σ2) <| fun K1 =>
  fX12_copies_3 a0 na0 a1 a2 na2 a3 K1 FU 0 σ

def fX12_readsLine  (σ : FH) : Option (Int32 × FH) :=
  fxBP (fX12_isWord 464141 σ) <| fun (r2 : Int32) =>
  fxL (fun (y5 : Int32) =>
      if 0 ≤ y5 then (
        fxG (fx_in 5 6 = true) <|
        if (σ.1 25 (Int32.toNatClampNeg 5)) = 40 then (
          fxBI (fX12_fails 5 σ) <| fun (r80 : Int32) (σ81 : FH) =>
          fxG (fx_bo r80 = true) <|
          some (r80, σ81))
        else (
          fxBV (fX12_nextToken σ) <| fun (σ11 : FH) =>
          fxG (fx_in 5 6 = true) <|
          fxL (α := Int32) (200 + (σ11.1 25 (Int32.toNatClampNeg 5))) <| fun (v13 : Int32) =>
          fxG (fx_in v13 240 = true) <|
          fxL (fx_si σ11 26 (Int32.toNatClampNeg v13) y5) <| fun (σ15 : FH) =>
          fxL (fun (σ17 : FH) =>
              fxL (fun (σ19 : FH) =>
                  fxL (fun (σ21 : FH) =>
                      fxG (fx_in 5 6 = true) <|
                      fxG (fx_in 5 6 = true) <|
                      fxL (fx_si σ21 25 (Int32.toNatClampNeg 5) ((σ21.1 25 (Int32.toNatClampNeg 5)) + 1)) <| fun (σ24 : FH) =>
                      fxBI (fX12_closes σ24) <| fun (r26 : Int32) (σ27 : FH) =>
                      fxG (fx_bo r26 = true) <|
                      some (r26, σ27)) <| fun J20 =>
                  if y5 = 4 then (
                    J20 σ19)
                  else (
                    if y5 = 2 then (
                      J20 σ19)
                    else (
                      fxBI (fX12_needsNumber 1 20 σ19) <| fun (r32 : Int32) (σ33 : FH) =>
                      if r32 = 0 then (
                        some ((0 : Int32), σ33))
                      else (
                        fxG (fx_in v13 240 = true) <|
                        fxL (fx_si σ33 29 (Int32.toNatClampNeg v13) (σ33.1 0 35)) <| fun (σ36 : FH) =>
                        J20 σ36)))) <| fun J18 =>
              fxL (
                  fxL (fun (σ39 : FH) =>
                      fxG (fx_in v13 240 = true) <|
                      if (σ39.1 0 35) = (σ39.1 27 (Int32.toNatClampNeg v13)) then (
                        fxBI (fX12_fails 3 σ39) <| fun (r48 : Int32) (σ49 : FH) =>
                        fxG (fx_bo r48 = true) <|
                        some (r48, σ49))
                      else (
                        fxG (fx_in v13 240 = true) <|
                        fxL (fx_si σ39 28 (Int32.toNatClampNeg v13) (σ39.1 0 35)) <| fun (σ43 : FH) =>
                        fxBV (fX12_nextToken σ43) <| fun (σ46 : FH) =>
                        J18 σ46)) <| fun J38 =>
                  if y5 = 3 then (
                    fxBI (fX12_needsParty 0 σ17) <| fun (r57 : Int32) (σ58 : FH) =>
                    if r57 = 0 then (
                      some ((0 : Int32), σ58))
                    else (
                      J38 σ58))
                  else (
                    fxBI (fX12_needsWare 0 σ17) <| fun (r53 : Int32) (σ54 : FH) =>
                    if r53 = 0 then (
                      some ((0 : Int32), σ54))
                    else (
                      J38 σ54))) <| fun J37 =>
              if y5 = 2 then (
                J37)
              else (
                if y5 = 3 then (
                  J37)
                else (
                  J18 σ17))) <| fun J16 =>
          if y5 = 4 then (
            J16 σ15)
          else (
            fxL (fun (σ64 : FH) =>
                fxG (fx_in v13 240 = true) <|
                fxL (fx_si σ64 27 (Int32.toNatClampNeg v13) (σ64.1 0 35)) <| fun (σ66 : FH) =>
                fxBV (fX12_nextToken σ66) <| fun (σ69 : FH) =>
                J16 σ69) <| fun J63 =>
            if y5 = 3 then (
              fxBI (fX12_needsParty 0 σ15) <| fun (r76 : Int32) (σ77 : FH) =>
              if r76 = 0 then (
                some ((0 : Int32), σ77))
              else (
                J63 σ77))
            else (
              fxBI (fX12_needsWare 0 σ15) <| fun (r72 : Int32) (σ73 : FH) =>
              if r72 = 0 then (
                some ((0 : Int32), σ73))
              else (
                J63 σ73)))))
      else (
        fxBI (fX12_fails 1 σ) <| fun (r84 : Int32) (σ85 : FH) =>
        fxG (fx_bo r84 = true) <|
        some (r84, σ85))) <| fun J4 =>
  if r2 = 0 then (
    fxBP (fX12_isWord 388978 σ) <| fun (r89 : Int32) =>
    if r89 = 0 then (
      fxBP (fX12_isWord 208022 σ) <| fun (r93 : Int32) =>
      if r93 = 0 then (
        fxBP (fX12_isWord 240223 σ) <| fun (r97 : Int32) =>
        if r97 = 0 then (
          fxBP (fX12_isWord 456500 σ) <| fun (r101 : Int32) =>
          if r101 = 0 then (
            J4 (-1))
          else (
            J4 4))
        else (
          J4 3))
      else (
        J4 2))
    else (
      J4 1))
  else (
    J4 0)

def fX12_laysLines_14 (a1 : Int32) (a2 : Int32) (K4 : FH → Option FH) : Nat → Int32 → FH → Option FH
  | 0, _, _ => none
  | n9 + 1, w6, σ7 =>
    if 40 ≤ w6 then (
      K4 σ7)
    else (
      fxG (fx_in ((40 * a1) + w6) 240 = true) <|
      fxG (fx_in ((40 * a2) + w6) 240 = true) <|
      fxL (fx_si σ7 26 (Int32.toNatClampNeg ((40 * a2) + w6)) (σ7.1 26 (Int32.toNatClampNeg ((40 * a1) + w6)))) <| fun (σ13 : FH) =>
      fxG (fx_in ((40 * a1) + w6) 240 = true) <|
      fxG (fx_in ((40 * a2) + w6) 240 = true) <|
      fxL (fx_si σ13 27 (Int32.toNatClampNeg ((40 * a2) + w6)) (σ13.1 27 (Int32.toNatClampNeg ((40 * a1) + w6)))) <| fun (σ16 : FH) =>
      fxG (fx_in ((40 * a1) + w6) 240 = true) <|
      fxG (fx_in ((40 * a2) + w6) 240 = true) <|
      fxL (fx_si σ16 28 (Int32.toNatClampNeg ((40 * a2) + w6)) (σ16.1 28 (Int32.toNatClampNeg ((40 * a1) + w6)))) <| fun (σ19 : FH) =>
      fxG (fx_in ((40 * a1) + w6) 240 = true) <|
      fxG (fx_in ((40 * a2) + w6) 240 = true) <|
      fxL (fx_si σ19 29 (Int32.toNatClampNeg ((40 * a2) + w6)) (σ19.1 29 (Int32.toNatClampNeg ((40 * a1) + w6)))) <| fun (σ22 : FH) =>
      fX12_laysLines_14 a1 a2 K4 n9 (w6 + 1) σ22)
def fX12_laysLines (a1 : Int32) (a2 : Int32) (σ : FH) : Option FH :=
  fxG (fx_in a1 6 = true) <|
  fxG (fx_in a2 6 = true) <|
  fxL (fx_si σ 25 (Int32.toNatClampNeg a2) (σ.1 25 (Int32.toNatClampNeg a1))) <| fun (σ3 : FH) =>
  fxL (fun (σ5 : FH) =>
      some σ5) <| fun K4 =>
  fX12_laysLines_14 a1 a2 K4 FU 0 σ3

def fX12_laysSaid_14 (a1 : Int32) (a2 : Int32) (K4 : FH → Option FH) : Nat → Int32 → FH → Option FH
  | 0, _, _ => none
  | n9 + 1, w6, σ7 =>
    if 8 ≤ w6 then (
      K4 σ7)
    else (
      fxG (fx_in ((8 * a1) + w6) 40 = true) <|
      fxG (fx_in ((8 * a2) + w6) 40 = true) <|
      fxL (fx_si σ7 31 (Int32.toNatClampNeg ((8 * a2) + w6)) (σ7.1 31 (Int32.toNatClampNeg ((8 * a1) + w6)))) <| fun (σ13 : FH) =>
      fxG (fx_in ((8 * a1) + w6) 40 = true) <|
      fxG (fx_in ((8 * a2) + w6) 40 = true) <|
      fxL (fx_si σ13 32 (Int32.toNatClampNeg ((8 * a2) + w6)) (vp_nar .boolean (σ13.1 32 (Int32.toNatClampNeg ((8 * a1) + w6))))) <| fun (σ16 : FH) =>
      fX12_laysSaid_14 a1 a2 K4 n9 (w6 + 1) σ16)
def fX12_laysSaid (a1 : Int32) (a2 : Int32) (σ : FH) : Option FH :=
  fxG (fx_in a1 5 = true) <|
  fxG (fx_in a2 5 = true) <|
  fxL (fx_si σ 30 (Int32.toNatClampNeg a2) (σ.1 30 (Int32.toNatClampNeg a1))) <| fun (σ3 : FH) =>
  fxL (fun (σ5 : FH) =>
      some σ5) <| fun K4 =>
  fX12_laysSaid_14 a1 a2 K4 FU 0 σ3

def fX12_fresh0_55 (K5 : FH → Option FH) : Nat → Int32 → FH → Option FH
  | 0, _, _ => none
  | n10 + 1, w7, σ8 =>
    fxG (fx_in 1 6 = true) <|
    if (σ8.1 2 (Int32.toNatClampNeg 1)) ≤ w7 then (
      K5 σ8)
    else (
      fxG (fx_in w7 10 = true) <|
      fxG (fx_in (9 + w7) 14 = true) <|
      fxL (fx_si σ8 33 (Int32.toNatClampNeg (9 + w7)) (σ8.1 8 (Int32.toNatClampNeg w7))) <| fun (σ15 : FH) =>
      fX12_fresh0_55 K5 n10 (w7 + 1) σ15)
def fX12_fresh0_23 (K3 : FH → Option FH) : Nat → Int32 → FH → Option FH
  | 0, _, _ => none
  | n20 + 1, w17, σ18 =>
    fxG (fx_in 0 6 = true) <|
    if (σ18.1 2 (Int32.toNatClampNeg 0)) ≤ w17 then (
      K3 σ18)
    else (
      fxG (fx_in w17 12 = true) <|
      fxG (fx_in (3 + w17) 14 = true) <|
      fxL (fx_si σ18 33 (Int32.toNatClampNeg (3 + w17)) (σ18.1 7 (Int32.toNatClampNeg w17))) <| fun (σ25 : FH) =>
      fX12_fresh0_23 K3 n20 (w17 + 1) σ25)
def fX12_fresh0_2 (K1 : FH → Option FH) : Nat → Int32 → FH → Option FH
  | 0, _, _ => none
  | n30 + 1, w27, σ28 =>
    if 14 ≤ w27 then (
      K1 σ28)
    else (
      fxG (fx_in w27 14 = true) <|
      fxL (fx_si σ28 33 (Int32.toNatClampNeg w27) 0) <| fun (σ33 : FH) =>
      fX12_fresh0_2 K1 n30 (w27 + 1) σ33)
def fX12_fresh0  (σ : FH) : Option FH :=
  fxL (fun (σ2 : FH) =>
      fxL (fun (σ4 : FH) =>
          fxL (fun (σ6 : FH) =>
              some σ6) <| fun K5 =>
          fX12_fresh0_55 K5 FU 0 σ4) <| fun K3 =>
      fX12_fresh0_23 K3 FU 0 σ2) <| fun K1 =>
  fX12_fresh0_2 K1 FU 0 σ

def fX12_republic_46 (K17 : FH → Option (Int32 × FH)) : Nat → Int32 → FH → Option (Int32 × FH)
  | 0, _, _ => none
  | n22 + 1, w19, σ20 =>
    if 4 ≤ w19 then (
      K17 σ20)
    else (
      fxG (fx_in w19 4 = true) <|
      fxL (fx_si σ20 38 (Int32.toNatClampNeg w19) (vp_nar .boolean 0)) <| fun (σ25 : FH) =>
      fX12_republic_46 K17 n22 (w19 + 1) σ25)
def fX12_republic  (σ : FH) : Option (Int32 × FH) :=
  fxL (fx_si σ 0 0 0) <| fun (σ1 : FH) =>
  fxBI (fX12_readsAll σ1) <| fun (r3 : Int32) (σ4 : FH) =>
  if r3 = 0 then (
    some ((σ4.1 0 9), σ4))
  else (
    fxBV (fX12_lays σ4) <| fun (σ8 : FH) =>
    fxBV (fX12_fresh0 σ8) <| fun (σ11 : FH) =>
    fxG (fx_in 0 6 = true) <|
    fxL (fx_si σ11 25 (Int32.toNatClampNeg 0) 0) <| fun (σ13 : FH) =>
    fxG (fx_in 0 5 = true) <|
    fxL (fx_si σ13 30 (Int32.toNatClampNeg 0) 0) <| fun (σ15 : FH) =>
    fxL (fx_si σ15 0 51 0) <| fun (σ16 : FH) =>
    fxL (fun (σ18 : FH) =>
        some ((0 : Int32), σ18)) <| fun K17 =>
    fX12_republic_46 K17 FU 0 σ16)

def fX12_term_16 (K7 : FH → Option (Int32 × FH)) : Nat → FH → Option (Int32 × FH)
  | 0, _ => none
  | n14 + 1, σ12 =>
    if (σ12.1 0 6) = 0 then (
      K7 σ12)
    else (
      fxBI (fX12_readsLine σ12) <| fun (r17 : Int32) (σ18 : FH) =>
      if r17 = 0 then (
        some ((σ18.1 0 9), σ18))
      else (
        fX12_term_16 K7 n14 σ18))
def fX12_term  (σ : FH) : Option (Int32 × FH) :=
  fxL (fx_si σ 0 0 0) <| fun (σ1 : FH) =>
  fxG (fx_in 5 6 = true) <|
  fxL (fx_si σ1 25 (Int32.toNatClampNeg 5) 0) <| fun (σ3 : FH) =>
  fxBV (fX12_begins σ3) <| fun (σ6 : FH) =>
  fxL (fun (σ8 : FH) =>
      fxBV (fX12_laysLines 5 0 σ8) <| fun (σ11 : FH) =>
      some ((0 : Int32), σ11)) <| fun K7 =>
  fX12_term_16 K7 FU σ6

def fX12_isWare (a1 : Int32) (σ : FH) : Option Int32 :=
  if a1 < 0 then (
    some (0 : Int32))
  else (
    fxG (fx_in 0 6 = true) <|
    if (σ.1 2 (Int32.toNatClampNeg 0)) ≤ a1 then (
      some (0 : Int32))
    else (
      some (1 : Int32)))

def fX12_isParty (a1 : Int32) (σ : FH) : Option Int32 :=
  if a1 < 0 then (
    some (0 : Int32))
  else (
    fxG (fx_in 1 6 = true) <|
    if (σ.1 2 (Int32.toNatClampNeg 1)) ≤ a1 then (
      some (0 : Int32))
    else (
      some (1 : Int32)))

def fX12_halfOf (a1 : Int32) (σ : FH) : Option Int32 :=
  fxG (fx_in a1 12 = true) <|
  some ((σ.1 6 (Int32.toNatClampNeg a1)) / 2)

def fX12_isHalf (a1 : Int32) (σ : FH) : Option Int32 :=
  fxG (fx_in (3 + a1) 14 = true) <|
  fxBP (fX12_halfOf a1 σ) <| fun (r3 : Int32) =>
  fxL (α := Int32) (if (σ.1 33 (Int32.toNatClampNeg (3 + a1))) = r3 then 1 else 0) <| fun (v5 : Int32) =>
  fxG (fx_bo v5 = true) <|
  some v5

def fX12_blocOf_4 (a1 : Int32) (σ : FH) (K1 : Int32 → Option Int32) : Nat → Int32 → Int32 → Option Int32
  | 0, _, _ => none
  | n6 + 1, w3, w4 =>
    fxG (fx_in 1 6 = true) <|
    if (σ.1 2 (Int32.toNatClampNeg 1)) ≤ w4 then (
      K1 w3)
    else (
      fxG (fx_in w4 10 = true) <|
      fxL (α := Int32) (w3 ||| ((((σ.1 9 (Int32.toNatClampNeg w4)) >>> (a1 &&& 31)) &&& 1) <<< (w4 &&& 31))) <| fun (v10 : Int32) =>
      fX12_blocOf_4 a1 σ K1 n6 v10 (w4 + 1))
def fX12_blocOf (a1 : Int32) (σ : FH) : Option Int32 :=
  fxL (fun (x2 : Int32) =>
      some x2) <| fun K1 =>
  fX12_blocOf_4 a1 σ K1 FU 0 0

def fX12_seatsOf_4 (a1 : Int32) (σ : FH) (K1 : Int32 → Option Int32) : Nat → Int32 → Int32 → Option Int32
  | 0, _, _ => none
  | n6 + 1, w3, w4 =>
    fxG (fx_in 1 6 = true) <|
    if (σ.1 2 (Int32.toNatClampNeg 1)) ≤ w4 then (
      K1 w3)
    else (
      if ((a1 >>> (w4 &&& 31)) &&& 1) = 1 then (
        fxG (fx_in (9 + w4) 14 = true) <|
        fxL (α := Int32) (w3 + (σ.1 33 (Int32.toNatClampNeg (9 + w4)))) <| fun (v12 : Int32) =>
        fX12_seatsOf_4 a1 σ K1 n6 v12 (w4 + 1))
      else (
        fxL (α := Int32) (w3 + 0) <| fun (v10 : Int32) =>
        fX12_seatsOf_4 a1 σ K1 n6 v10 (w4 + 1)))
def fX12_seatsOf (a1 : Int32) (σ : FH) : Option Int32 :=
  fxL (fun (x2 : Int32) =>
      some x2) <| fun K1 =>
  fX12_seatsOf_4 a1 σ K1 FU 0 0

def fX12_allSeats  (σ : FH) : Option Int32 :=
  fxBP (fX12_seatsOf 31 σ) <| fun (r2 : Int32) =>
  some r2

def fX12_votesOf (a1 : Int32) (σ : FH) : Option Int32 :=
  fxBP (fX12_blocOf a1 σ) <| fun (r2 : Int32) =>
  fxBP (fX12_seatsOf r2 σ) <| fun (r5 : Int32) =>
  some r5

def fX12_works (a1 : Int32) (a2 : Int32) (σ : FH) : Option (Int32 × FH) :=
  fxG (fx_in (3 + a1) 14 = true) <|
  fxBP (fX12_halfOf a1 σ) <| fun (r3 : Int32) =>
  fxL (α := Int32) (if 0 < (((σ.1 33 (Int32.toNatClampNeg (3 + a1))) + a2) - r3) then (((σ.1 33 (Int32.toNatClampNeg (3 + a1))) + a2) - r3) else 0) <| fun (v5 : Int32) =>
  fxG (fx_in (3 + a1) 14 = true) <|
  fxG (fx_in (3 + a1) 14 = true) <|
  fxL (fx_si σ 33 (Int32.toNatClampNeg (3 + a1)) ((σ.1 33 (Int32.toNatClampNeg (3 + a1))) + (a2 - v5))) <| fun (σ8 : FH) =>
  fxG (fx_in 1 14 = true) <|
  fxG (fx_in 2 6 = true) <|
  fxG (fx_in 1 14 = true) <|
  fxL (fx_si σ8 33 (Int32.toNatClampNeg 1) ((σ8.1 33 (Int32.toNatClampNeg 1)) + (v5 * (σ8.1 2 (Int32.toNatClampNeg 2))))) <| fun (σ12 : FH) =>
  fxG (fx_in 2 6 = true) <|
  some ((v5 * (σ12.1 2 (Int32.toNatClampNeg 2))), σ12)

def fX12_effort (a1 : Int32) (a2 : Int32) (a3 : Int32) (a4 : Int32) (σ : FH) : Option (Int32 × FH) :=
  fxG (fx_in 0 2 = true) <|
  fxG (fx_in 0 2 = true) <|
  if (σ.1 11 (Int32.toNatClampNeg 0)) = (σ.1 10 (Int32.toNatClampNeg 0)) then (
    some ((1 : Int32), σ))
  else (
    fxG (fx_in 1 20 = true) <|
    fxL (fx_si σ 24 (Int32.toNatClampNeg 1) a1) <| fun (σ5 : FH) =>
    fxG (fx_in 2 20 = true) <|
    fxL (fx_si σ5 24 (Int32.toNatClampNeg 2) a2) <| fun (σ7 : FH) =>
    fxG (fx_in 3 20 = true) <|
    fxL (fx_si σ7 24 (Int32.toNatClampNeg 3) a3) <| fun (σ9 : FH) =>
    fxG (fx_in 4 20 = true) <|
    fxL (fx_si σ9 24 (Int32.toNatClampNeg 4) a4) <| fun (σ11 : FH) =>
    fxBI (fX12_worked 0 σ11) <| fun (r13 : Int32) (σ14 : FH) =>
    fxBP (fX12_between r13 0 9 σ14) <| fun (r16 : Int32) =>
    some (r16, σ14))

def fX12_worksWeek (a1 : Int32) (σ : FH) : Option (Int32 × FH) :=
  fxG (fx_in a1 12 = true) <|
  fxL (
      fxG (fx_in (3 + a1) 14 = true) <|
      fxBP (fX12_halfOf a1 σ) <| fun (r5 : Int32) =>
      fxBP (fX12_votesOf a1 σ) <| fun (r8 : Int32) =>
      fxG (fx_in 0 14 = true) <|
      fxBI (fX12_effort (σ.1 33 (Int32.toNatClampNeg (3 + a1))) r5 r8 (σ.1 33 (Int32.toNatClampNeg 0)) σ) <| fun (r12 : Int32) (σ13 : FH) =>
      fxG (fx_in a1 12 = true) <|
      fxL (fun (x16 : Int32) =>
          fxBI (fX12_works a1 x16 σ13) <| fun (r18 : Int32) (σ19 : FH) =>
          fxG (fx_in a1 12 = true) <|
          if (σ19.1 5 (Int32.toNatClampNeg a1)) = 1 then (
            fxBI (fX12_works a1 x16 σ19) <| fun (r23 : Int32) (σ24 : FH) =>
            some ((r18 + r23), σ24))
          else (
            some (r18, σ19))) <| fun J15 =>
      if (σ13.1 5 (Int32.toNatClampNeg a1)) = 2 then (
        fxBP (fX12_halfOf a1 σ13) <| fun (r27 : Int32) =>
        fxG (fx_in (3 + a1) 14 = true) <|
        fxL (α := Int32) (if (((r27 - (σ13.1 33 (Int32.toNatClampNeg (3 + a1)))) + 1) / 2) < r12 then (((r27 - (σ13.1 33 (Int32.toNatClampNeg (3 + a1)))) + 1) / 2) else r12) <| fun (v30 : Int32) =>
        J15 v30)
      else (
        J15 r12)) <| fun J2 =>
  if (σ.1 5 (Int32.toNatClampNeg a1)) = 3 then (
    fxG (fx_in 0 14 = true) <|
    if ((σ.1 33 (Int32.toNatClampNeg 0)) - (σ.1 33 (Int32.toNatClampNeg 0)) / 2 * 2) = 1 then (
      some ((0 : Int32), σ))
    else (
      J2))
  else (
    J2)

def fX12_passes_9 (K2 : Int32 → FH → Option (Int32 × FH)) : Nat → Int32 → Int32 → FH → Option (Int32 × FH)
  | 0, _, _, _ => none
  | n12 + 1, w8, w9, σ10 =>
    fxG (fx_in 0 6 = true) <|
    if (σ10.1 2 (Int32.toNatClampNeg 0)) ≤ w9 then (
      K2 w8 σ10)
    else (
      fxBI (fX12_worksWeek w9 σ10) <| fun (r16 : Int32) (σ17 : FH) =>
      fxL (α := Int32) (w8 + r16) <| fun (v18 : Int32) =>
      fxL (α := Int32) (if r16 ≤ 0 then 0 else (1 <<< (w9 &&& 31))) <| fun (v19 : Int32) =>
      fxL (fx_si σ17 0 52 ((σ17.1 0 52) ||| v19)) <| fun (σ22 : FH) =>
      fX12_passes_9 K2 n12 v18 (w9 + 1) σ22)
def fX12_passes  (σ : FH) : Option (Int32 × FH) :=
  fxL (fx_si σ 0 52 0) <| fun (σ1 : FH) =>
  fxL (fun (x3 : Int32) (σ4 : FH) =>
      fxG (fx_in 0 14 = true) <|
      fxG (fx_in 0 14 = true) <|
      fxL (fx_si σ4 33 (Int32.toNatClampNeg 0) ((σ4.1 33 (Int32.toNatClampNeg 0)) + 1)) <| fun (σ7 : FH) =>
      some (x3, σ7)) <| fun K2 =>
  fX12_passes_9 K2 FU 0 0 σ1

def fX12_canJoin (a1 : Int32) (a2 : Int32) (σ : FH) : Option Int32 :=
  if a1 = a2 then (
    some (0 : Int32))
  else (
    fxG (fx_in a1 12 = true) <|
    fxG (fx_in a2 12 = true) <|
    if (σ.1 6 (Int32.toNatClampNeg a1)) = (σ.1 6 (Int32.toNatClampNeg a2)) then (
      fxBP (fX12_isHalf a1 σ) <| fun (r6 : Int32) =>
      if r6 = 0 then (
        some (0 : Int32))
      else (
        fxBP (fX12_isHalf a2 σ) <| fun (r10 : Int32) =>
        if r10 = 0 then (
          some (0 : Int32))
        else (
          some (1 : Int32))))
    else (
      some (0 : Int32)))

def fX12_joins (a1 : Int32) (a2 : Int32) (σ : FH) : Option FH :=
  fxG (fx_in (3 + a1) 14 = true) <|
  fxL (fx_si σ 33 (Int32.toNatClampNeg (3 + a1)) 0) <| fun (σ2 : FH) =>
  fxG (fx_in (3 + a2) 14 = true) <|
  fxL (fx_si σ2 33 (Int32.toNatClampNeg (3 + a2)) 0) <| fun (σ4 : FH) =>
  fxG (fx_in 1 14 = true) <|
  fxG (fx_in 2 6 = true) <|
  fxG (fx_in 1 14 = true) <|
  fxL (fx_si σ4 33 (Int32.toNatClampNeg 1) ((σ4.1 33 (Int32.toNatClampNeg 1)) + (10 * (σ4.1 2 (Int32.toNatClampNeg 2))))) <| fun (σ8 : FH) =>
  fxG (fx_in 2 14 = true) <|
  fxG (fx_in 2 14 = true) <|
  fxL (fx_si σ8 33 (Int32.toNatClampNeg 2) ((σ8.1 33 (Int32.toNatClampNeg 2)) + 1)) <| fun (σ11 : FH) =>
  some σ11

def fX12_canLend (a1 : Int32) (a2 : Int32) (a3 : Int32) (σ : FH) : Option Int32 :=
  if a1 = a2 then (
    some (0 : Int32))
  else (
    fxG (fx_in (9 + a1) 14 = true) <|
    if (σ.1 33 (Int32.toNatClampNeg (9 + a1))) < a3 then (
      some (0 : Int32))
    else (
      fxG (fx_in (9 + a2) 14 = true) <|
      if 99 < ((σ.1 33 (Int32.toNatClampNeg (9 + a2))) + a3) then (
        some (0 : Int32))
      else (
        some (1 : Int32))))

def fX12_lends (a1 : Int32) (a2 : Int32) (a3 : Int32) (σ : FH) : Option FH :=
  fxG (fx_in (9 + a1) 14 = true) <|
  fxG (fx_in (9 + a1) 14 = true) <|
  fxL (fx_si σ 33 (Int32.toNatClampNeg (9 + a1)) ((σ.1 33 (Int32.toNatClampNeg (9 + a1))) - a3)) <| fun (σ3 : FH) =>
  fxG (fx_in (9 + a2) 14 = true) <|
  fxG (fx_in (9 + a2) 14 = true) <|
  fxL (fx_si σ3 33 (Int32.toNatClampNeg (9 + a2)) ((σ3.1 33 (Int32.toNatClampNeg (9 + a2))) + a3)) <| fun (σ6 : FH) =>
  some σ6

def fX12_carriedOf (a1 : Int32) (σ : FH) : Option Int32 :=
  fxBP (fX12_votesOf a1 σ) <| fun (r2 : Int32) =>
  fxL (α := Int32) (2 * r2) <| fun (v4 : Int32) =>
  fxBP (fX12_allSeats σ) <| fun (r6 : Int32) =>
  fxL (α := Int32) (if v4 ≤ r6 then (if v4 = r6 then (if r6 ≤ 0 then 0 else 1) else 0) else 2) <| fun (v8 : Int32) =>
  some v8

def fX12_ware (a1 : Int32) (a2 : Int32) (σ : FH) : Option (Int32 × FH) :=
  fxL (fx_si σ 0 0 0) <| fun (σ1 : FH) =>
  fxBP (fX12_isWare a1 σ1) <| fun (r3 : Int32) =>
  if r3 = 0 then (
    some (((-1) : Int32), σ1))
  else (
    fxBP (fX12_within a2 0 5 σ1) <| fun (r7 : Int32) =>
    if r7 = 0 then (
      some (((-1) : Int32), σ1))
    else (
      if 3 ≤ a2 then (
        if a2 = 3 then (
          fxBP (fX12_halfOf a1 σ1) <| fun (r20 : Int32) =>
          some (r20, σ1))
        else (
          if a2 = 4 then (
            fxBP (fX12_votesOf a1 σ1) <| fun (r17 : Int32) =>
            some (r17, σ1))
          else (
            fxBP (fX12_carriedOf a1 σ1) <| fun (r14 : Int32) =>
            some (r14, σ1))))
      else (
        if a2 = 0 then (
          fxG (fx_in a1 12 = true) <|
          some ((σ1.1 5 (Int32.toNatClampNeg a1)), σ1))
        else (
          if a2 = 1 then (
            fxG (fx_in a1 12 = true) <|
            some ((σ1.1 6 (Int32.toNatClampNeg a1)), σ1))
          else (
            fxG (fx_in (3 + a1) 14 = true) <|
            some ((σ1.1 33 (Int32.toNatClampNeg (3 + a1))), σ1))))))

def fX12_party (a1 : Int32) (a2 : Int32) (σ : FH) : Option (Int32 × FH) :=
  fxL (fx_si σ 0 0 0) <| fun (σ1 : FH) =>
  fxBP (fX12_isParty a1 σ1) <| fun (r3 : Int32) =>
  if r3 = 0 then (
    some (((-1) : Int32), σ1))
  else (
    fxBP (fX12_within a2 0 1 σ1) <| fun (r7 : Int32) =>
    if r7 = 0 then (
      some (((-1) : Int32), σ1))
    else (
      if a2 = 0 then (
        fxG (fx_in (9 + a1) 14 = true) <|
        some ((σ1.1 33 (Int32.toNatClampNeg (9 + a1))), σ1))
      else (
        fxG (fx_in a1 10 = true) <|
        some ((σ1.1 9 (Int32.toNatClampNeg a1)), σ1))))

def fX12_keeps_11 (K8 : FH → Option FH) : Nat → Int32 → FH → Option FH
  | 0, _, _ => none
  | n14 + 1, w11, σ12 =>
    if 210 ≤ w11 then (
      K8 σ12)
    else (
      fxG (fx_in (w11 + 14) 224 = true) <|
      fxG (fx_in w11 224 = true) <|
      fxL (fx_si σ12 37 (Int32.toNatClampNeg w11) (σ12.1 37 (Int32.toNatClampNeg (w11 + 14)))) <| fun (σ18 : FH) =>
      fX12_keeps_11 K8 n14 (w11 + 1) σ18)
def fX12_keeps  (σ : FH) : Option FH :=
  fxL (fun (σ2 : FH) =>
      fxBV (fX12_copies 33 14 0 37 224 (14 * (σ2.1 0 51)) σ2) <| fun (σ5 : FH) =>
      fxL (fx_si σ5 0 51 ((σ5.1 0 51) + 1)) <| fun (σ6 : FH) =>
      some σ6) <| fun J1 =>
  if (σ.1 0 51) = 16 then (
    fxL (fun (σ9 : FH) =>
        fxL (fx_si σ9 0 51 ((σ9.1 0 51) - 1)) <| fun (σ10 : FH) =>
        J1 σ10) <| fun K8 =>
    fX12_keeps_11 K8 FU 0 σ)
  else (
    J1 σ)

def fX12_work (a1 : Int32) (a2 : Int32) (σ : FH) : Option (Int32 × FH) :=
  fxL (fx_si σ 0 0 0) <| fun (σ1 : FH) =>
  fxBP (fX12_isWare a1 σ1) <| fun (r3 : Int32) =>
  if r3 = 0 then (
    some (((-1) : Int32), σ1))
  else (
    fxBP (fX12_within a2 1 20 σ1) <| fun (r7 : Int32) =>
    if r7 = 0 then (
      some (((-1) : Int32), σ1))
    else (
      fxBV (fX12_keeps σ1) <| fun (σ12 : FH) =>
      fxBI (fX12_works a1 a2 σ12) <| fun (r14 : Int32) (σ15 : FH) =>
      some (r14, σ15)))

def fX12_stop (a1 : Int32) (a2 : Int32) (σ : FH) : Option (Int32 × FH) :=
  fxL (fx_si σ 0 0 0) <| fun (σ1 : FH) =>
  fxBP (fX12_isWare a1 σ1) <| fun (r3 : Int32) =>
  if r3 = 0 then (
    some (((-1) : Int32), σ1))
  else (
    fxBP (fX12_within a2 1 20 σ1) <| fun (r7 : Int32) =>
    if r7 = 0 then (
      some (((-1) : Int32), σ1))
    else (
      fxBV (fX12_keeps σ1) <| fun (σ12 : FH) =>
      fxG (fx_in (3 + a1) 14 = true) <|
      fxG (fx_in (3 + a1) 14 = true) <|
      fxL (fx_si σ12 33 (Int32.toNatClampNeg (3 + a1)) (if 0 < ((σ12.1 33 (Int32.toNatClampNeg (3 + a1))) - a2) then ((σ12.1 33 (Int32.toNatClampNeg (3 + a1))) - a2) else 0)) <| fun (σ15 : FH) =>
      fxG (fx_in (3 + a1) 14 = true) <|
      some ((σ15.1 33 (Int32.toNatClampNeg (3 + a1))), σ15)))

def fX12_join (a1 : Int32) (a2 : Int32) (σ : FH) : Option (Int32 × FH) :=
  fxL (fx_si σ 0 0 0) <| fun (σ1 : FH) =>
  fxBP (fX12_isWare a1 σ1) <| fun (r3 : Int32) =>
  if r3 = 0 then (
    some ((0 : Int32), σ1))
  else (
    fxBP (fX12_isWare a2 σ1) <| fun (r7 : Int32) =>
    if r7 = 0 then (
      some ((0 : Int32), σ1))
    else (
      fxBP (fX12_canJoin a1 a2 σ1) <| fun (r11 : Int32) =>
      if r11 = 0 then (
        some ((0 : Int32), σ1))
      else (
        fxBV (fX12_keeps σ1) <| fun (σ16 : FH) =>
        fxBV (fX12_joins a1 a2 σ16) <| fun (σ19 : FH) =>
        some ((1 : Int32), σ19))))

def fX12_lend (a1 : Int32) (a2 : Int32) (a3 : Int32) (σ : FH) : Option (Int32 × FH) :=
  fxL (fx_si σ 0 0 0) <| fun (σ1 : FH) =>
  fxBP (fX12_isParty a1 σ1) <| fun (r3 : Int32) =>
  if r3 = 0 then (
    some ((0 : Int32), σ1))
  else (
    fxBP (fX12_isParty a2 σ1) <| fun (r7 : Int32) =>
    if r7 = 0 then (
      some ((0 : Int32), σ1))
    else (
      fxBP (fX12_within a3 1 20 σ1) <| fun (r11 : Int32) =>
      if r11 = 0 then (
        some ((0 : Int32), σ1))
      else (
        fxBP (fX12_canLend a1 a2 a3 σ1) <| fun (r15 : Int32) =>
        if r15 = 0 then (
          some ((0 : Int32), σ1))
        else (
          fxBV (fX12_keeps σ1) <| fun (σ20 : FH) =>
          fxBV (fX12_lends a1 a2 a3 σ20) <| fun (σ23 : FH) =>
          some ((1 : Int32), σ23)))))

def fX12_week  (σ : FH) : Option (Int32 × FH) :=
  fxL (fx_si σ 0 0 0) <| fun (σ1 : FH) =>
  fxBV (fX12_keeps σ1) <| fun (σ4 : FH) =>
  fxBI (fX12_passes σ4) <| fun (r6 : Int32) (σ7 : FH) =>
  some (r6, σ7)

def fX12_undo  (σ : FH) : Option (Int32 × FH) :=
  fxL (fx_si σ 0 0 0) <| fun (σ1 : FH) =>
  if (σ1.1 0 51) = 0 then (
    some ((0 : Int32), σ1))
  else (
    fxL (fx_si σ1 0 51 ((σ1.1 0 51) - 1)) <| fun (σ3 : FH) =>
    fxBV (fX12_copies 37 224 (14 * (σ3.1 0 51)) 33 14 0 σ3) <| fun (σ6 : FH) =>
    some ((1 : Int32), σ6))

def fX12_goes (a1 : Int32) (σ : FH) : Option (Int32 × FH) :=
  fxG (fx_in a1 240 = true) <|
  fxL (α := Int32) (σ.1 27 (Int32.toNatClampNeg a1)) <| fun (v2 : Int32) =>
  fxG (fx_in a1 240 = true) <|
  fxL (α := Int32) (σ.1 26 (Int32.toNatClampNeg a1)) <| fun (v4 : Int32) =>
  if v4 = 0 then (
    fxG (fx_in a1 240 = true) <|
    fxBI (fX12_works v2 (σ.1 29 (Int32.toNatClampNeg a1)) σ) <| fun (r38 : Int32) (σ39 : FH) =>
    some ((1 : Int32), σ39))
  else (
    if v4 = 1 then (
      fxG (fx_in (3 + v2) 14 = true) <|
      fxG (fx_in a1 240 = true) <|
      fxG (fx_in (3 + v2) 14 = true) <|
      fxL (fx_si σ 33 (Int32.toNatClampNeg (3 + v2)) (if 0 < ((σ.1 33 (Int32.toNatClampNeg (3 + v2))) - (σ.1 29 (Int32.toNatClampNeg a1))) then ((σ.1 33 (Int32.toNatClampNeg (3 + v2))) - (σ.1 29 (Int32.toNatClampNeg a1))) else 0)) <| fun (σ35 : FH) =>
      some ((1 : Int32), σ35))
    else (
      if v4 = 2 then (
        fxG (fx_in a1 240 = true) <|
        fxBP (fX12_canJoin v2 (σ.1 28 (Int32.toNatClampNeg a1)) σ) <| fun (r25 : Int32) =>
        if r25 = 0 then (
          some ((0 : Int32), σ))
        else (
          fxG (fx_in a1 240 = true) <|
          fxBV (fX12_joins v2 (σ.1 28 (Int32.toNatClampNeg a1)) σ) <| fun (σ31 : FH) =>
          some ((1 : Int32), σ31)))
      else (
        if v4 = 3 then (
          fxG (fx_in a1 240 = true) <|
          fxG (fx_in a1 240 = true) <|
          fxBP (fX12_canLend v2 (σ.1 28 (Int32.toNatClampNeg a1)) (σ.1 29 (Int32.toNatClampNeg a1)) σ) <| fun (r15 : Int32) =>
          if r15 = 0 then (
            some ((0 : Int32), σ))
          else (
            fxG (fx_in a1 240 = true) <|
            fxG (fx_in a1 240 = true) <|
            fxBV (fX12_lends v2 (σ.1 28 (Int32.toNatClampNeg a1)) (σ.1 29 (Int32.toNatClampNeg a1)) σ) <| fun (σ22 : FH) =>
            some ((1 : Int32), σ22)))
        else (
          fxBI (fX12_passes σ) <| fun (r10 : Int32) (σ11 : FH) =>
          some ((1 : Int32), σ11)))))

def fX12_judged_41 (K12 : Int32 → Int32 → FH → Option (Int32 × FH)) : Nat → Int32 → Int32 → Int32 → FH → Option (Int32 × FH)
  | 0, _, _, _, _ => none
  | n30 + 1, w25, w26, w27, σ28 =>
    fxG (fx_in 0 6 = true) <|
    if (σ28.1 25 (Int32.toNatClampNeg 0)) ≤ w27 then (
      K12 w25 w26 σ28)
    else (
      fxBI (fX12_goes w27 σ28) <| fun (r34 : Int32) (σ35 : FH) =>
      fxL (α := Int32) (if r34 = 0 then (if 0 ≤ w25 then w25 else w27) else w25) <| fun (v36 : Int32) =>
      fxG (fx_in 1 14 = true) <|
      fxL (α := Int32) (if (σ35.1 33 (Int32.toNatClampNeg 1)) ≤ 0 then w26 else (if 0 ≤ w26 then w26 else w27)) <| fun (v41 : Int32) =>
      fX12_judged_41 K12 n30 v36 v41 (w27 + 1) σ35)
def fX12_judged (a1 : Int32) (σ : FH) : Option (Int32 × FH) :=
  fxL (fx_si σ 0 0 0) <| fun (σ1 : FH) =>
  fxBP (fX12_within a1 0 2 σ1) <| fun (r3 : Int32) =>
  if r3 = 0 then (
    some (((-2) : Int32), σ1))
  else (
    fxBV (fX12_copies 33 14 0 34 14 0 σ1) <| fun (σ8 : FH) =>
    fxBV (fX12_fresh0 σ8) <| fun (σ11 : FH) =>
    fxL (fun (x13 : Int32) (x14 : Int32) (σ15 : FH) =>
        fxG (fx_in 1 14 = true) <|
        fxL (α := Int32) (σ15.1 33 (Int32.toNatClampNeg 1)) <| fun (v17 : Int32) =>
        fxBV (fX12_copies 34 14 0 33 14 0 σ15) <| fun (σ20 : FH) =>
        fxL (α := Int32) (if a1 = 0 then x13 else (if a1 = 1 then x14 else v17)) <| fun (v21 : Int32) =>
        some (v21, σ20)) <| fun K12 =>
    fX12_judged_41 K12 FU (-1) (-1) 0 σ11)

def fX12_when_30 (a1 : Int32) (K9 : Int32 → FH → Option (Int32 × FH)) : Nat → Int32 → FH → Option (Int32 × FH)
  | 0, _, _ => none
  | n21 + 1, w18, σ19 =>
    if 60 < w18 then (
      K9 w18 σ19)
    else (
      fxBP (fX12_isHalf a1 σ19) <| fun (r24 : Int32) =>
      if r24 = 0 then (
        fxBI (fX12_passes σ19) <| fun (r28 : Int32) (σ29 : FH) =>
        fX12_when_30 a1 K9 n21 (w18 + 1) σ29)
      else (
        K9 w18 σ19))
def fX12_when (a1 : Int32) (σ : FH) : Option (Int32 × FH) :=
  fxL (fx_si σ 0 0 0) <| fun (σ1 : FH) =>
  fxBP (fX12_isWare a1 σ1) <| fun (r3 : Int32) =>
  if r3 = 0 then (
    some (((-1) : Int32), σ1))
  else (
    fxBV (fX12_copies 33 14 0 35 14 0 σ1) <| fun (σ8 : FH) =>
    fxL (fun (x10 : Int32) (σ11 : FH) =>
        fxBV (fX12_copies 35 14 0 33 14 0 σ11) <| fun (σ14 : FH) =>
        fxL (α := Int32) (if x10 ≤ 60 then x10 else (-1)) <| fun (v15 : Int32) =>
        some (v15, σ14)) <| fun K9 =>
    fX12_when_30 a1 K9 FU 0 σ8)

def fX12_caught_32 (a1 : Int32) (K9 : Int32 → FH → Option (Int32 × FH)) : Nat → Int32 → Int32 → FH → Option (Int32 × FH)
  | 0, _, _, _ => none
  | n19 + 1, w15, w16, σ17 =>
    if 60 < w16 then (
      K9 w15 σ17)
    else (
      if 0 ≤ w15 then (
        K9 w15 σ17)
      else (
        fxBI (fX12_passes σ17) <| fun (r23 : Int32) (σ24 : FH) =>
        fxL (α := Int32) (if (((σ24.1 0 52) >>> (a1 &&& 31)) &&& 1) = 1 then w16 else w15) <| fun (v25 : Int32) =>
        fX12_caught_32 a1 K9 n19 v25 (w16 + 1) σ24))
def fX12_caught (a1 : Int32) (σ : FH) : Option (Int32 × FH) :=
  fxL (fx_si σ 0 0 0) <| fun (σ1 : FH) =>
  fxBP (fX12_isWare a1 σ1) <| fun (r3 : Int32) =>
  if r3 = 0 then (
    some (((-1) : Int32), σ1))
  else (
    fxBV (fX12_copies 33 14 0 35 14 0 σ1) <| fun (σ8 : FH) =>
    fxL (fun (x10 : Int32) (σ11 : FH) =>
        fxBV (fX12_copies 35 14 0 33 14 0 σ11) <| fun (σ14 : FH) =>
        some (x10, σ14)) <| fun K9 =>
    fX12_caught_32 a1 K9 FU (-1) 1 σ8)

def fX12_joined_58 (a1 : Int32) (a2 : Int32) (K17 : Int32 → FH → Option (Int32 × FH)) : Nat → Int32 → FH → Option (Int32 × FH)
  | 0, _, _ => none
  | n29 + 1, w26, σ27 =>
    if 60 < w26 then (
      K17 w26 σ27)
    else (
      fxBP (fX12_canJoin a1 a2 σ27) <| fun (r32 : Int32) =>
      if r32 = 0 then (
        fxBI (fX12_passes σ27) <| fun (r36 : Int32) (σ37 : FH) =>
        fX12_joined_58 a1 a2 K17 n29 (w26 + 1) σ37)
      else (
        K17 w26 σ27))
def fX12_joined (a1 : Int32) (a2 : Int32) (σ : FH) : Option (Int32 × FH) :=
  fxL (fx_si σ 0 0 0) <| fun (σ1 : FH) =>
  fxBP (fX12_isWare a1 σ1) <| fun (r3 : Int32) =>
  if r3 = 0 then (
    some (((-1) : Int32), σ1))
  else (
    fxBP (fX12_isWare a2 σ1) <| fun (r7 : Int32) =>
    if r7 = 0 then (
      some (((-1) : Int32), σ1))
    else (
      fxG (fx_in a1 12 = true) <|
      fxG (fx_in a2 12 = true) <|
      if (σ1.1 6 (Int32.toNatClampNeg a1)) = (σ1.1 6 (Int32.toNatClampNeg a2)) then (
        if a1 = a2 then (
          some (((-1) : Int32), σ1))
        else (
          fxBV (fX12_copies 33 14 0 35 14 0 σ1) <| fun (σ16 : FH) =>
          fxL (fun (x18 : Int32) (σ19 : FH) =>
              fxBV (fX12_copies 35 14 0 33 14 0 σ19) <| fun (σ22 : FH) =>
              fxL (α := Int32) (if x18 ≤ 60 then x18 else (-1)) <| fun (v23 : Int32) =>
              some (v23, σ22)) <| fun K17 =>
          fX12_joined_58 a1 a2 K17 FU 0 σ16))
      else (
        some (((-1) : Int32), σ1))))

def fX12_fines_34 (a1 : Int32) (K9 : Int32 → FH → Option (Int32 × FH)) : Nat → Int32 → Int32 → FH → Option (Int32 × FH)
  | 0, _, _, _ => none
  | n19 + 1, w15, w16, σ17 =>
    if a1 ≤ w16 then (
      K9 w15 σ17)
    else (
      fxBI (fX12_passes σ17) <| fun (r22 : Int32) (σ23 : FH) =>
      fxL (α := Int32) (w15 + r22) <| fun (v24 : Int32) =>
      fX12_fines_34 a1 K9 n19 v24 (w16 + 1) σ23)
def fX12_fines (a1 : Int32) (σ : FH) : Option (Int32 × FH) :=
  fxL (fx_si σ 0 0 0) <| fun (σ1 : FH) =>
  fxBP (fX12_within a1 1 60 σ1) <| fun (r3 : Int32) =>
  if r3 = 0 then (
    some (((-1) : Int32), σ1))
  else (
    fxBV (fX12_copies 33 14 0 35 14 0 σ1) <| fun (σ8 : FH) =>
    fxL (fun (x10 : Int32) (σ11 : FH) =>
        fxBV (fX12_copies 35 14 0 33 14 0 σ11) <| fun (σ14 : FH) =>
        some (x10, σ14)) <| fun K9 =>
    fX12_fines_34 a1 K9 FU 0 0 σ8)

def fX12_round_21 (σ1 : FH) (w5 : Int32) (K10 : Int32 → Option (Int32 × FH)) : Nat → Int32 → Int32 → Option (Int32 × FH)
  | 0, _, _ => none
  | n15 + 1, w12, w13 =>
    if w5 ≤ w13 then (
      K10 w12)
    else (
      fxBP (fX12_canJoin w5 w13 σ1) <| fun (r18 : Int32) =>
      fxL (α := Int32) (if r18 = 0 then 0 else 1) <| fun (v20 : Int32) =>
      fxL (α := Int32) (w12 + v20) <| fun (v23 : Int32) =>
      fX12_round_21 σ1 w5 K10 n15 v23 (w13 + 1))
def fX12_round_9 (σ1 : FH) (K2 : Int32 → Option (Int32 × FH)) : Nat → Int32 → Int32 → Option (Int32 × FH)
  | 0, _, _ => none
  | n7 + 1, w4, w5 =>
    fxG (fx_in 0 6 = true) <|
    if (σ1.1 2 (Int32.toNatClampNeg 0)) ≤ w5 then (
      K2 w4)
    else (
      fxL (fun (x11 : Int32) =>
          fX12_round_9 σ1 K2 n7 x11 (w5 + 1)) <| fun K10 =>
      fX12_round_21 σ1 w5 K10 FU w4 0)
def fX12_round  (σ : FH) : Option (Int32 × FH) :=
  fxL (fx_si σ 0 0 0) <| fun (σ1 : FH) =>
  fxL (fun (x3 : Int32) =>
      some (x3, σ1)) <| fun K2 =>
  fX12_round_9 σ1 K2 FU 0 0

def fX12_halves_4 (σ : FH) (K1 : Int32 → Option Int32) : Nat → Int32 → Int32 → Option Int32
  | 0, _, _ => none
  | n6 + 1, w3, w4 =>
    fxG (fx_in 0 6 = true) <|
    if (σ.1 2 (Int32.toNatClampNeg 0)) ≤ w4 then (
      K1 w3)
    else (
      fxBP (fX12_isHalf w4 σ) <| fun (r10 : Int32) =>
      fxL (α := Int32) (if r10 = 0 then 0 else (1 <<< (w4 &&& 31))) <| fun (v12 : Int32) =>
      fxL (α := Int32) (w3 ||| v12) <| fun (v15 : Int32) =>
      fX12_halves_4 σ K1 n6 v15 (w4 + 1))
def fX12_halves  (σ : FH) : Option Int32 :=
  fxL (fun (x2 : Int32) =>
      some x2) <| fun K1 =>
  fX12_halves_4 σ K1 FU 0 0

def fX12_lackOf_4 (a1 : Int32) (σ : FH) (K1 : Int32 → Option Int32) : Nat → Int32 → Int32 → Option Int32
  | 0, _, _ => none
  | n6 + 1, w3, w4 =>
    fxG (fx_in 0 6 = true) <|
    if (σ.1 2 (Int32.toNatClampNeg 0)) ≤ w4 then (
      K1 w3)
    else (
      if ((a1 >>> (w4 &&& 31)) &&& 1) = 1 then (
        fxBP (fX12_halfOf w4 σ) <| fun (r12 : Int32) =>
        fxG (fx_in (3 + w4) 14 = true) <|
        fxL (α := Int32) (w3 + (r12 - (σ.1 33 (Int32.toNatClampNeg (3 + w4))))) <| fun (v15 : Int32) =>
        fX12_lackOf_4 a1 σ K1 n6 v15 (w4 + 1))
      else (
        fxL (α := Int32) (w3 + 0) <| fun (v10 : Int32) =>
        fX12_lackOf_4 a1 σ K1 n6 v10 (w4 + 1)))
def fX12_lackOf (a1 : Int32) (σ : FH) : Option Int32 :=
  fxL (fun (x2 : Int32) =>
      some x2) <| fun K1 =>
  fX12_lackOf_4 a1 σ K1 FU 0 0

def fX12_most_38 (a1 : Int32) (σ1 : FH) (r11 : Int32) (K13 : Int32 → Option (Int32 × FH)) : Nat → Int32 → Int32 → Option (Int32 × FH)
  | 0, _, _ => none
  | n26 + 1, w23, w24 =>
    fxG (fx_in 0 6 = true) <|
    if (1 <<< ((σ1.1 2 (Int32.toNatClampNeg 0)) &&& 31)) ≤ w24 then (
      K13 w23)
    else (
      if (w24 &&& r11) = r11 then (
        fxBP (fX12_lackOf w24 σ1) <| fun (r31 : Int32) =>
        if a1 < r31 then (
          fX12_most_38 a1 σ1 r11 K13 n26 w23 (w24 + 1))
        else (
          fxBP (fX12_bits w24 σ1) <| fun (r35 : Int32) =>
          fxBP (fX12_bits w23 σ1) <| fun (r38 : Int32) =>
          if r38 ≤ r35 then (
            fxBP (fX12_bits w24 σ1) <| fun (r42 : Int32) =>
            fxBP (fX12_bits w23 σ1) <| fun (r45 : Int32) =>
            if r45 < r42 then (
              fX12_most_38 a1 σ1 r11 K13 n26 w24 (w24 + 1))
            else (
              fxBP (fX12_lackOf w24 σ1) <| fun (r49 : Int32) =>
              fxBP (fX12_lackOf w23 σ1) <| fun (r52 : Int32) =>
              if r52 ≤ r49 then (
                fX12_most_38 a1 σ1 r11 K13 n26 w23 (w24 + 1))
              else (
                fX12_most_38 a1 σ1 r11 K13 n26 w24 (w24 + 1))))
          else (
            fX12_most_38 a1 σ1 r11 K13 n26 w23 (w24 + 1))))
      else (
        fX12_most_38 a1 σ1 r11 K13 n26 w23 (w24 + 1)))
def fX12_most (a1 : Int32) (a2 : Int32) (σ : FH) : Option (Int32 × FH) :=
  fxL (fx_si σ 0 0 0) <| fun (σ1 : FH) =>
  fxBP (fX12_within a1 0 200 σ1) <| fun (r3 : Int32) =>
  if r3 = 0 then (
    some (((-1) : Int32), σ1))
  else (
    fxBP (fX12_within a2 0 2 σ1) <| fun (r7 : Int32) =>
    if r7 = 0 then (
      some (((-1) : Int32), σ1))
    else (
      fxBP (fX12_halves σ1) <| fun (r11 : Int32) =>
      fxL (fun (x14 : Int32) =>
          if a2 = 0 then (
            fxBP (fX12_bits x14 σ1) <| fun (r21 : Int32) =>
            some (r21, σ1))
          else (
            if a2 = 1 then (
              fxBP (fX12_lackOf x14 σ1) <| fun (r18 : Int32) =>
              some (r18, σ1))
            else (
              some (x14, σ1)))) <| fun K13 =>
      fX12_most_38 a1 σ1 r11 K13 FU r11 0))

def fX12_ways_22 (a1 : Int32) (σ1 : FH) (K6 : Int32 → Option (Int32 × FH)) : Nat → Int32 → Int32 → Option (Int32 × FH)
  | 0, _, _ => none
  | n11 + 1, w8, w9 =>
    fxG (fx_in 1 6 = true) <|
    if (1 <<< ((σ1.1 2 (Int32.toNatClampNeg 1)) &&& 31)) ≤ w9 then (
      K6 w8)
    else (
      fxBP (fX12_seatsOf w9 σ1) <| fun (r15 : Int32) =>
      fxL (α := Int32) (if r15 = a1 then 1 else 0) <| fun (v17 : Int32) =>
      fxL (α := Int32) (w8 + v17) <| fun (v20 : Int32) =>
      fX12_ways_22 a1 σ1 K6 n11 v20 (w9 + 1))
def fX12_ways (a1 : Int32) (σ : FH) : Option (Int32 × FH) :=
  fxL (fx_si σ 0 0 0) <| fun (σ1 : FH) =>
  fxBP (fX12_within a1 0 200 σ1) <| fun (r3 : Int32) =>
  if r3 = 0 then (
    some (((-1) : Int32), σ1))
  else (
    fxL (fun (x7 : Int32) =>
        some (x7, σ1)) <| fun K6 =>
    fX12_ways_22 a1 σ1 K6 FU 0 0)

def fX12_isMore (a1 : Int32) (σ : FH) : Option Int32 :=
  fxBP (fX12_seatsOf a1 σ) <| fun (r2 : Int32) =>
  fxBP (fX12_allSeats σ) <| fun (r5 : Int32) =>
  fxL (α := Int32) (if (2 * r2) ≤ r5 then 0 else 1) <| fun (v7 : Int32) =>
  fxG (fx_bo v7 = true) <|
  some v7

def fX12_pivotsOf_4 (a1 : Int32) (σ : FH) (K1 : Int32 → Option Int32) : Nat → Int32 → Int32 → Option Int32
  | 0, _, _ => none
  | n6 + 1, w3, w4 =>
    fxG (fx_in 1 6 = true) <|
    if (1 <<< ((σ.1 2 (Int32.toNatClampNeg 1)) &&& 31)) ≤ w4 then (
      K1 w3)
    else (
      if ((w4 >>> (a1 &&& 31)) &&& 1) = 0 then (
        fxBP (fX12_isMore w4 σ) <| fun (r12 : Int32) =>
        if r12 = 0 then (
          fxBP (fX12_isMore (w4 ||| (1 <<< (a1 &&& 31))) σ) <| fun (r17 : Int32) =>
          if r17 = 0 then (
            fxL (α := Int32) (w3 + 0) <| fun (v20 : Int32) =>
            fX12_pivotsOf_4 a1 σ K1 n6 v20 (w4 + 1))
          else (
            fxL (α := Int32) (w3 + 1) <| fun (v21 : Int32) =>
            fX12_pivotsOf_4 a1 σ K1 n6 v21 (w4 + 1)))
        else (
          fxL (α := Int32) (w3 + 0) <| fun (v15 : Int32) =>
          fX12_pivotsOf_4 a1 σ K1 n6 v15 (w4 + 1)))
      else (
        fxL (α := Int32) (w3 + 0) <| fun (v10 : Int32) =>
        fX12_pivotsOf_4 a1 σ K1 n6 v10 (w4 + 1)))
def fX12_pivotsOf (a1 : Int32) (σ : FH) : Option Int32 :=
  fxL (fun (x2 : Int32) =>
      some x2) <| fun K1 =>
  fX12_pivotsOf_4 a1 σ K1 FU 0 0

def fX12_pivot (a1 : Int32) (σ : FH) : Option (Int32 × FH) :=
  fxL (fx_si σ 0 0 0) <| fun (σ1 : FH) =>
  fxBP (fX12_isParty a1 σ1) <| fun (r3 : Int32) =>
  if r3 = 0 then (
    some (((-1) : Int32), σ1))
  else (
    fxBP (fX12_pivotsOf a1 σ1) <| fun (r7 : Int32) =>
    some (r7, σ1))

def fX12_power_19 (σ1 : FH) (K6 : Int32 → Option (Int32 × FH)) : Nat → Int32 → Int32 → Option (Int32 × FH)
  | 0, _, _ => none
  | n16 + 1, w13, w14 =>
    fxG (fx_in 1 6 = true) <|
    if (σ1.1 2 (Int32.toNatClampNeg 1)) ≤ w14 then (
      K6 w13)
    else (
      fxBP (fX12_pivotsOf w14 σ1) <| fun (r20 : Int32) =>
      fxL (α := Int32) (w13 + r20) <| fun (v22 : Int32) =>
      fX12_power_19 σ1 K6 n16 v22 (w14 + 1))
def fX12_power (a1 : Int32) (σ : FH) : Option (Int32 × FH) :=
  fxL (fx_si σ 0 0 0) <| fun (σ1 : FH) =>
  fxBP (fX12_isParty a1 σ1) <| fun (r3 : Int32) =>
  if r3 = 0 then (
    some (((-1) : Int32), σ1))
  else (
    fxL (fun (x7 : Int32) =>
        if x7 = 0 then (
          some (((-1) : Int32), σ1))
        else (
          fxBP (fX12_pivotsOf a1 σ1) <| fun (r10 : Int32) =>
          fxG (¬ (Int32.toInt64 x7) = 0) <|
          some ((Int64.toInt32 (((Int32.toInt64 r10) * 1000000) / (Int32.toInt64 x7))), σ1))) <| fun K6 =>
    fX12_power_19 σ1 K6 FU 0 0)

def fX12_core_20 (σ1 : FH) (K4 : Int32 → Int32 → Option (Int32 × FH)) : Nat → Int32 → Int32 → Int32 → Option (Int32 × FH)
  | 0, _, _, _ => none
  | n14 + 1, w10, w11, w12 =>
    fxG (fx_in 1 6 = true) <|
    if (1 <<< ((σ1.1 2 (Int32.toNatClampNeg 1)) &&& 31)) ≤ w12 then (
      K4 w10 w11)
    else (
      fxBP (fX12_isMore w12 σ1) <| fun (r18 : Int32) =>
      if r18 = 0 then (
        fX12_core_20 σ1 K4 n14 w10 w11 (w12 + 1))
      else (
        fxL (α := Int32) (w10 &&& w12) <| fun (v21 : Int32) =>
        fX12_core_20 σ1 K4 n14 v21 1 (w12 + 1)))
def fX12_core  (σ : FH) : Option (Int32 × FH) :=
  fxL (fx_si σ 0 0 0) <| fun (σ1 : FH) =>
  fxG (fx_in 1 6 = true) <|
  fxL (α := Int32) ((1 <<< ((σ1.1 2 (Int32.toNatClampNeg 1)) &&& 31)) - 1) <| fun (v3 : Int32) =>
  fxL (fun (x5 : Int32) (x6 : Int32) =>
      fxL (α := Int32) (if x6 = 0 then 0 else x5) <| fun (v7 : Int32) =>
      some (v7, σ1)) <| fun K4 =>
  fX12_core_20 σ1 K4 FU v3 0 0

def fX12_lean_9 (σ1 : FH) (K2 : Int32 → Option (Int32 × FH)) : Nat → Int32 → Int32 → Option (Int32 × FH)
  | 0, _, _ => none
  | n7 + 1, w4, w5 =>
    fxG (fx_in 1 6 = true) <|
    if (1 <<< ((σ1.1 2 (Int32.toNatClampNeg 1)) &&& 31)) ≤ w5 then (
      K2 w4)
    else (
      fxBP (fX12_isMore w5 σ1) <| fun (r11 : Int32) =>
      if r11 = 0 then (
        fX12_lean_9 σ1 K2 n7 w4 (w5 + 1))
      else (
        if w4 < 0 then (
          fX12_lean_9 σ1 K2 n7 w5 (w5 + 1))
        else (
          fxBP (fX12_bits w5 σ1) <| fun (r16 : Int32) =>
          fxBP (fX12_bits w4 σ1) <| fun (r19 : Int32) =>
          if r19 ≤ r16 then (
            fX12_lean_9 σ1 K2 n7 w4 (w5 + 1))
          else (
            fX12_lean_9 σ1 K2 n7 w5 (w5 + 1)))))
def fX12_lean  (σ : FH) : Option (Int32 × FH) :=
  fxL (fx_si σ 0 0 0) <| fun (σ1 : FH) =>
  fxL (fun (x3 : Int32) =>
      some (x3, σ1)) <| fun K2 =>
  fX12_lean_9 σ1 K2 FU (-1) 0

def fX12_isHalvedBy (a1 : Int32) (a2 : Int32) (a3 : Int32) (a4 : Int32) (σ : FH) : Option (Int32 × FH) :=
  fxBP (fX12_isParty a2 σ) <| fun (r2 : Int32) =>
  if r2 = 0 then (
    some ((0 : Int32), σ))
  else (
    fxBP (fX12_isParty a3 σ) <| fun (r6 : Int32) =>
    if r6 = 0 then (
      some ((0 : Int32), σ))
    else (
      fxBP (fX12_canLend a2 a3 a4 σ) <| fun (r10 : Int32) =>
      if r10 = 0 then (
        some ((0 : Int32), σ))
      else (
        fxBV (fX12_lends a2 a3 a4 σ) <| fun (σ15 : FH) =>
        fxBP (fX12_carriedOf a1 σ15) <| fun (r17 : Int32) =>
        fxL (α := Int32) (if r17 = 1 then 1 else 0) <| fun (v19 : Int32) =>
        fxBV (fX12_lends a3 a2 a4 σ15) <| fun (σ24 : FH) =>
        fxG (fx_bo v19 = true) <|
        some (v19, σ24))))

def fX12_shift_55 (a1 : Int32) (a2 : Int32) (w16 : Int32) (K21 : FH → Option (Int32 × FH)) : Nat → Int32 → FH → Option (Int32 × FH)
  | 0, _, _ => none
  | n26 + 1, w23, σ24 =>
    if 25 ≤ w23 then (
      K21 σ24)
    else (
      fxL (α := Int32) (w23 / 5) <| fun (v28 : Int32) =>
      fxL (α := Int32) (w23 - w23 / 5 * 5) <| fun (v29 : Int32) =>
      fxBI (fX12_isHalvedBy a1 v28 v29 w16 σ24) <| fun (r31 : Int32) (σ32 : FH) =>
      if r31 = 0 then (
        fX12_shift_55 a1 a2 w16 K21 n26 (w23 + 1) σ32)
      else (
        fxL (α := Int32) (if a2 = 0 then w16 else (if a2 = 1 then v28 else v29)) <| fun (v34 : Int32) =>
        some (v34, σ32)))
def fX12_shift_46 (a1 : Int32) (a2 : Int32) (K14 : FH → Option (Int32 × FH)) : Nat → Int32 → FH → Option (Int32 × FH)
  | 0, _, _ => none
  | n19 + 1, w16, σ17 =>
    if 21 ≤ w16 then (
      K14 σ17)
    else (
      fxL (fun (σ22 : FH) =>
          fX12_shift_46 a1 a2 K14 n19 (w16 + 1) σ22) <| fun K21 =>
      fX12_shift_55 a1 a2 w16 K21 FU 0 σ17)
def fX12_shift (a1 : Int32) (a2 : Int32) (σ : FH) : Option (Int32 × FH) :=
  fxL (fx_si σ 0 0 0) <| fun (σ1 : FH) =>
  fxBP (fX12_isWare a1 σ1) <| fun (r3 : Int32) =>
  if r3 = 0 then (
    some (((-2) : Int32), σ1))
  else (
    fxBP (fX12_within a2 0 2 σ1) <| fun (r7 : Int32) =>
    if r7 = 0 then (
      some (((-2) : Int32), σ1))
    else (
      fxBP (fX12_carriedOf a1 σ1) <| fun (r11 : Int32) =>
      if r11 = 1 then (
        fxL (α := Int32) (if a2 = 0 then 0 else (-1)) <| fun (v40 : Int32) =>
        some (v40, σ1))
      else (
        fxL (fun (σ15 : FH) =>
            some (((-2) : Int32), σ15)) <| fun K14 =>
        fX12_shift_46 a1 a2 K14 FU 1 σ1)))

def fX12_agreeOf (a1 : Int32) (a2 : Int32) (σ : FH) : Option Int32 :=
  fxG (fx_in 0 6 = true) <|
  fxG (fx_in a1 10 = true) <|
  fxG (fx_in a2 10 = true) <|
  fxBP (fX12_bits ((σ.1 9 (Int32.toNatClampNeg a1)) ^^^ (σ.1 9 (Int32.toNatClampNeg a2))) σ) <| fun (r5 : Int32) =>
  some ((σ.1 2 (Int32.toNatClampNeg 0)) - r5)

def fX12_rival_19 (a1 : Int32) (σ1 : FH) (K6 : Int32 → Option (Int32 × FH)) : Nat → Int32 → Int32 → Option (Int32 × FH)
  | 0, _, _ => none
  | n11 + 1, w8, w9 =>
    fxG (fx_in 1 6 = true) <|
    if (σ1.1 2 (Int32.toNatClampNeg 1)) ≤ w9 then (
      K6 w8)
    else (
      if w9 = a1 then (
        fX12_rival_19 a1 σ1 K6 n11 w8 (w9 + 1))
      else (
        if w8 < 0 then (
          fX12_rival_19 a1 σ1 K6 n11 w9 (w9 + 1))
        else (
          fxBP (fX12_agreeOf a1 w9 σ1) <| fun (r17 : Int32) =>
          fxBP (fX12_agreeOf a1 w8 σ1) <| fun (r20 : Int32) =>
          if r20 ≤ r17 then (
            fX12_rival_19 a1 σ1 K6 n11 w8 (w9 + 1))
          else (
            fX12_rival_19 a1 σ1 K6 n11 w9 (w9 + 1)))))
def fX12_rival (a1 : Int32) (σ : FH) : Option (Int32 × FH) :=
  fxL (fx_si σ 0 0 0) <| fun (σ1 : FH) =>
  fxBP (fX12_isParty a1 σ1) <| fun (r3 : Int32) =>
  if r3 = 0 then (
    some (((-1) : Int32), σ1))
  else (
    fxL (fun (x7 : Int32) =>
        some (x7, σ1)) <| fun K6 =>
    fX12_rival_19 a1 σ1 K6 FU (-1) 0)

def fX12_friends_21 (σ1 : FH) (w5 : Int32) (K10 : Int32 → Option (Int32 × FH)) : Nat → Int32 → Int32 → Option (Int32 × FH)
  | 0, _, _ => none
  | n15 + 1, w12, w13 =>
    if w5 ≤ w13 then (
      K10 w12)
    else (
      fxG (fx_in w5 10 = true) <|
      fxG (fx_in w13 10 = true) <|
      fxL (α := Int32) (if (σ1.1 9 (Int32.toNatClampNeg w5)) = (σ1.1 9 (Int32.toNatClampNeg w13)) then 1 else 0) <| fun (v19 : Int32) =>
      fxL (α := Int32) (w12 + v19) <| fun (v22 : Int32) =>
      fX12_friends_21 σ1 w5 K10 n15 v22 (w13 + 1))
def fX12_friends_9 (σ1 : FH) (K2 : Int32 → Option (Int32 × FH)) : Nat → Int32 → Int32 → Option (Int32 × FH)
  | 0, _, _ => none
  | n7 + 1, w4, w5 =>
    fxG (fx_in 1 6 = true) <|
    if (σ1.1 2 (Int32.toNatClampNeg 1)) ≤ w5 then (
      K2 w4)
    else (
      fxL (fun (x11 : Int32) =>
          fX12_friends_9 σ1 K2 n7 x11 (w5 + 1)) <| fun K10 =>
      fX12_friends_21 σ1 w5 K10 FU w4 0)
def fX12_friends  (σ : FH) : Option (Int32 × FH) :=
  fxL (fx_si σ 0 0 0) <| fun (σ1 : FH) =>
  fxL (fun (x3 : Int32) =>
      some (x3, σ1)) <| fun K2 =>
  fX12_friends_9 σ1 K2 FU 0 0

def fX12_bloc (a1 : Int32) (σ : FH) : Option (Int32 × FH) :=
  fxL (fx_si σ 0 0 0) <| fun (σ1 : FH) =>
  fxBP (fX12_isWare a1 σ1) <| fun (r3 : Int32) =>
  if r3 = 0 then (
    some (((-1) : Int32), σ1))
  else (
    fxBP (fX12_blocOf a1 σ1) <| fun (r7 : Int32) =>
    some (r7, σ1))

def fX12_orphans_9 (σ1 : FH) (K2 : Int32 → Option (Int32 × FH)) : Nat → Int32 → Int32 → Option (Int32 × FH)
  | 0, _, _ => none
  | n7 + 1, w4, w5 =>
    fxG (fx_in 0 6 = true) <|
    if (σ1.1 2 (Int32.toNatClampNeg 0)) ≤ w5 then (
      K2 w4)
    else (
      fxBP (fX12_votesOf w5 σ1) <| fun (r11 : Int32) =>
      fxL (α := Int32) (if r11 = 0 then (1 <<< (w5 &&& 31)) else 0) <| fun (v13 : Int32) =>
      fxL (α := Int32) (w4 ||| v13) <| fun (v16 : Int32) =>
      fX12_orphans_9 σ1 K2 n7 v16 (w5 + 1))
def fX12_orphans  (σ : FH) : Option (Int32 × FH) :=
  fxL (fx_si σ 0 0 0) <| fun (σ1 : FH) =>
  fxL (fun (x3 : Int32) =>
      some (x3, σ1)) <| fun K2 =>
  fX12_orphans_9 σ1 K2 FU 0 0

def fX12_laysHalves_12 (w3 : Int32) (K8 : FH → Option FH) : Nat → Int32 → Int32 → FH → Option FH
  | 0, _, _, _ => none
  | n14 + 1, w10, w11, σ12 =>
    if 30 < w11 then (
      K8 σ12)
    else (
      fxL (α := Int32) (if w10 = (w3 / 2) then 1 else 0) <| fun (v16 : Int32) =>
      fxG (fx_in ((31 * w3) + w11) 1891 = true) <|
      fxL (fx_si σ12 39 (Int32.toNatClampNeg ((31 * w3) + w11)) (vp_nar .boolean v16)) <| fun (σ20 : FH) =>
      fxG (fx_in 0 14 = true) <|
      fxBI (fX12_effort w10 (w3 / 2) 0 ((σ20.1 33 (Int32.toNatClampNeg 0)) + w11) σ20) <| fun (r23 : Int32) (σ24 : FH) =>
      fxL (α := Int32) (if (w10 + r23) < (w3 / 2) then (w10 + r23) else (w3 / 2)) <| fun (v25 : Int32) =>
      fX12_laysHalves_12 w3 K8 n14 v25 (w11 + 1) σ24)
def fX12_laysHalves_2 (K1 : FH → Option FH) : Nat → Int32 → FH → Option FH
  | 0, _, _ => none
  | n6 + 1, w3, σ4 =>
    if 61 ≤ w3 then (
      K1 σ4)
    else (
      fxL (fun (σ9 : FH) =>
          fX12_laysHalves_2 K1 n6 (w3 + 1) σ9) <| fun K8 =>
      fX12_laysHalves_12 w3 K8 FU 0 0 σ4)
def fX12_laysHalves  (σ : FH) : Option FH :=
  fxL (fun (σ2 : FH) =>
      some σ2) <| fun K1 =>
  fX12_laysHalves_2 K1 FU 2 σ

def fX12_say (a1 : Int32) (a2 : Int32) (σ : FH) : Option (Int32 × FH) :=
  fxL (fx_si σ 0 0 0) <| fun (σ1 : FH) =>
  fxBP (fX12_within a1 0 30 σ1) <| fun (r3 : Int32) =>
  if r3 = 0 then (
    some ((0 : Int32), σ1))
  else (
    fxG (fx_in 0 5 = true) <|
    if (σ1.1 30 (Int32.toNatClampNeg 0)) = 8 then (
      some ((0 : Int32), σ1))
    else (
      fxG (fx_in 0 5 = true) <|
      fxG (fx_in (σ1.1 30 (Int32.toNatClampNeg 0)) 40 = true) <|
      fxL (fx_si σ1 31 (Int32.toNatClampNeg (σ1.1 30 (Int32.toNatClampNeg 0))) a1) <| fun (σ10 : FH) =>
      fxG (fx_in 0 5 = true) <|
      fxG (fx_in (σ10.1 30 (Int32.toNatClampNeg 0)) 40 = true) <|
      fxL (fx_si σ10 32 (Int32.toNatClampNeg (σ10.1 30 (Int32.toNatClampNeg 0))) (vp_nar .boolean a2)) <| fun (σ13 : FH) =>
      fxG (fx_in 0 5 = true) <|
      fxG (fx_in 0 5 = true) <|
      fxL (fx_si σ13 30 (Int32.toNatClampNeg 0) ((σ13.1 30 (Int32.toNatClampNeg 0)) + 1)) <| fun (σ16 : FH) =>
      some ((1 : Int32), σ16)))

def fX12_isAsSaid_2 (a1 : Int32) (σ : FH) (K1 : Option Int32) : Nat → Int32 → Option Int32
  | 0, _ => none
  | n4 + 1, w2 =>
    fxG (fx_in 0 5 = true) <|
    if (σ.1 30 (Int32.toNatClampNeg 0)) ≤ w2 then (
      K1)
    else (
      fxG (fx_in w2 40 = true) <|
      fxG (fx_in ((31 * a1) + (σ.1 31 (Int32.toNatClampNeg w2))) 1891 = true) <|
      fxG (fx_in w2 40 = true) <|
      if (σ.1 39 (Int32.toNatClampNeg ((31 * a1) + (σ.1 31 (Int32.toNatClampNeg w2))))) = (σ.1 32 (Int32.toNatClampNeg w2)) then (
        fX12_isAsSaid_2 a1 σ K1 n4 (w2 + 1))
      else (
        some (0 : Int32)))
def fX12_isAsSaid (a1 : Int32) (σ : FH) : Option Int32 :=
  fxL (
      some (1 : Int32)) <| fun K1 =>
  fX12_isAsSaid_2 a1 σ K1 FU 0

def fX12_wholes_30 (σ8 : FH) (K9 : Int32 → Int32 → Int32 → Option (Int32 × FH)) : Nat → Int32 → Int32 → Int32 → Int32 → Option (Int32 × FH)
  | 0, _, _, _, _ => none
  | n22 + 1, w17, w18, w19, w20 =>
    if 61 ≤ w20 then (
      K9 w17 w18 w19)
    else (
      fxBP (fX12_isAsSaid w20 σ8) <| fun (r25 : Int32) =>
      if r25 = 0 then (
        fX12_wholes_30 σ8 K9 n22 w17 w18 w19 (w20 + 1))
      else (
        fxL (α := Int32) (if 0 ≤ w18 then w18 else w20) <| fun (v28 : Int32) =>
        fX12_wholes_30 σ8 K9 n22 (w17 + 1) v28 w20 (w20 + 1)))
def fX12_wholes (a1 : Int32) (σ : FH) : Option (Int32 × FH) :=
  fxL (fx_si σ 0 0 0) <| fun (σ1 : FH) =>
  fxBP (fX12_within a1 0 2 σ1) <| fun (r3 : Int32) =>
  if r3 = 0 then (
    some (((-1) : Int32), σ1))
  else (
    fxBV (fX12_laysHalves σ1) <| fun (σ8 : FH) =>
    fxL (fun (x10 : Int32) (x11 : Int32) (x12 : Int32) =>
        fxL (α := Int32) (if a1 = 0 then x10 else (if a1 = 1 then x11 else x12)) <| fun (v13 : Int32) =>
        some (v13, σ8)) <| fun K9 =>
    fX12_wholes_30 σ8 K9 FU 0 (-1) (-1) 2)

def fX12_ask_31 (σ4 : FH) (w9 : Int32) (K13 : Int32 → Option (Int32 × FH)) : Nat → Int32 → Int32 → Option (Int32 × FH)
  | 0, _, _ => none
  | n20 + 1, w17, w18 =>
    if 61 ≤ w18 then (
      K13 w17)
    else (
      fxBP (fX12_isAsSaid w18 σ4) <| fun (r23 : Int32) =>
      if r23 = 0 then (
        fxL (α := Int32) (w17 + 0) <| fun (v26 : Int32) =>
        fX12_ask_31 σ4 w9 K13 n20 v26 (w18 + 1))
      else (
        fxG (fx_in ((31 * w18) + w9) 1891 = true) <|
        if (σ4.1 39 (Int32.toNatClampNeg ((31 * w18) + w9))) = 0 then (
          fxL (α := Int32) (w17 + 0) <| fun (v29 : Int32) =>
          fX12_ask_31 σ4 w9 K13 n20 v29 (w18 + 1))
        else (
          fxL (α := Int32) (w17 + 1) <| fun (v30 : Int32) =>
          fX12_ask_31 σ4 w9 K13 n20 v30 (w18 + 1))))
def fX12_ask_18 (r3 : Int32) (σ4 : FH) (K5 : Int32 → Option (Int32 × FH)) : Nat → Int32 → Int32 → Int32 → Option (Int32 × FH)
  | 0, _, _, _ => none
  | n11 + 1, w7, w8, w9 =>
    if 30 < w9 then (
      K5 w8)
    else (
      fxL (fun (x14 : Int32) =>
          fxL (α := Int32) (if x14 < (r3 - x14) then (r3 - x14) else x14) <| fun (v15 : Int32) =>
          if v15 < w7 then (
            fX12_ask_18 r3 σ4 K5 n11 v15 w9 (w9 + 1))
          else (
            fX12_ask_18 r3 σ4 K5 n11 w7 w8 (w9 + 1))) <| fun K13 =>
      fX12_ask_31 σ4 w9 K13 FU 0 2)
def fX12_ask  (σ : FH) : Option (Int32 × FH) :=
  fxL (fx_si σ 0 0 0) <| fun (σ1 : FH) =>
  fxBI (fX12_wholes 0 σ1) <| fun (r3 : Int32) (σ4 : FH) =>
  fxL (fun (x6 : Int32) =>
      some (x6, σ4)) <| fun K5 =>
  fX12_ask_18 r3 σ4 K5 FU r3 (-1) 0

def fX12_chance_97 (a2 : Int32) (a3 : Int32) (w24 : Int32) (K29 : Int64 → Int32 → FH → Option (Int32 × FH)) : Nat → Int64 → Int32 → Int32 → FH → Option (Int32 × FH)
  | 0, _, _, _, _ => none
  | n44 + 1, w39, w40, w41, σ42 =>
    if a2 ≤ w41 then (
      K29 w39 w40 σ42)
    else (
      fxL (α := Int32) (if ((w24 >>> (w41 &&& 31)) &&& 1) = 1 then 1 else 0) <| fun (v46 : Int32) =>
      fxL (α := Int64) (if v46 = 0 then (Int32.toInt64 (10 - a3)) else (Int32.toInt64 a3)) <| fun (v49 : Int64) =>
      fxL (α := Int64) (w39 * v49) <| fun (v52 : Int64) =>
      fxL (fun (σ54 : FH) =>
          fxL (α := Int32) (if v46 = 0 then (σ54.1 0 52) else 0) <| fun (v55 : Int32) =>
          fxL (α := Int32) (w40 ||| v55) <| fun (v58 : Int32) =>
          fX12_chance_97 a2 a3 w24 K29 n44 v52 v58 (w41 + 1) σ54) <| fun J53 =>
      if v46 = 0 then (
        fxBI (fX12_passes σ42) <| fun (r61 : Int32) (σ62 : FH) =>
        J53 σ62)
      else (
        fxG (fx_in 0 14 = true) <|
        fxG (fx_in 0 14 = true) <|
        fxL (fx_si σ42 33 (Int32.toNatClampNeg 0) ((σ42.1 33 (Int32.toNatClampNeg 0)) + 1)) <| fun (σ65 : FH) =>
        J53 σ65))
def fX12_chance_80 (a1 : Int32) (a2 : Int32) (a3 : Int32) (K19 : Int64 → FH → Option (Int32 × FH)) : Nat → Int64 → Int32 → FH → Option (Int32 × FH)
  | 0, _, _, _ => none
  | n27 + 1, w23, w24, σ25 =>
    if (1 <<< (a2 &&& 31)) ≤ w24 then (
      K19 w23 σ25)
    else (
      fxL (fun (x30 : Int64) (x31 : Int32) (σ32 : FH) =>
          fxL (α := Int64) (if ((x31 >>> (a1 &&& 31)) &&& 1) = 1 then (w23 + x30) else w23) <| fun (v33 : Int64) =>
          fxBV (fX12_copies 35 14 0 33 14 0 σ32) <| fun (σ38 : FH) =>
          fX12_chance_80 a1 a2 a3 K19 n27 v33 (w24 + 1) σ38) <| fun K29 =>
      fX12_chance_97 a2 a3 w24 K29 FU 1 0 0 σ25)
def fX12_chance_44 (a2 : Int32) (K14 : Int64 → Option (Int32 × FH)) : Nat → Int64 → Int32 → Option (Int32 × FH)
  | 0, _, _ => none
  | n71 + 1, w68, w69 =>
    if a2 ≤ w69 then (
      K14 w68)
    else (
      fxL (α := Int64) (w68 * 10) <| fun (v73 : Int64) =>
      fX12_chance_44 a2 K14 n71 v73 (w69 + 1))
def fX12_chance (a1 : Int32) (a2 : Int32) (a3 : Int32) (σ : FH) : Option (Int32 × FH) :=
  fxL (fx_si σ 0 0 0) <| fun (σ1 : FH) =>
  fxBP (fX12_isWare a1 σ1) <| fun (r3 : Int32) =>
  if r3 = 0 then (
    some (((-1) : Int32), σ1))
  else (
    fxBP (fX12_within a2 1 6 σ1) <| fun (r7 : Int32) =>
    if r7 = 0 then (
      some (((-1) : Int32), σ1))
    else (
      fxBP (fX12_within a3 0 10 σ1) <| fun (r11 : Int32) =>
      if r11 = 0 then (
        some (((-1) : Int32), σ1))
      else (
        fxL (fun (x15 : Int64) =>
            fxBV (fX12_copies 33 14 0 35 14 0 σ1) <| fun (σ18 : FH) =>
            fxL (fun (x20 : Int64) (σ21 : FH) =>
                fxG (¬ x15 = 0) <|
                some ((Int64.toInt32 ((x20 * 1000000) / x15)), σ21)) <| fun K19 =>
            fX12_chance_80 a1 a2 a3 K19 FU 0 0 σ18) <| fun K14 =>
        fX12_chance_44 a2 K14 FU 1 0)))

def fX12_getsBy (a0 : Int32) (a1 : Int32) (a2 : Int32) (a3 : Int32) (a4 : Int32) (σ : FH) : Option Int32 :=
  fxL (α := Int32) (if a3 = 1 then (if a4 = 1 then (-a0) else a1) else (if a4 = 1 then a2 else 0)) <| fun (v1 : Int32) =>
  some v1

def fX12_rests_61 (a1 : Int32) (a2 : Int32) (a3 : Int32) (a4 : Int32) (σ6 : FH) (K8 : Int32 → Option (Int32 × FH)) : Nat → Int32 → Int32 → Option (Int32 × FH)
  | 0, _, _ => none
  | n20 + 1, w17, w18 =>
    if 4 ≤ w18 then (
      K8 w17)
    else (
      fxL (α := Int32) (w18 / 2) <| fun (v22 : Int32) =>
      fxL (α := Int32) (w18 - w18 / 2 * 2) <| fun (v23 : Int32) =>
      fxBP (fX12_getsBy a1 a2 a3 (1 - v22) v23 σ6) <| fun (r25 : Int32) =>
      fxBP (fX12_getsBy a1 a2 a3 v22 v23 σ6) <| fun (r28 : Int32) =>
      if r28 < r25 then (
        fX12_rests_61 a1 a2 a3 a4 σ6 K8 n20 w17 (w18 + 1))
      else (
        fxBP (fX12_getsBy a1 a2 a3 (1 - v23) v22 σ6) <| fun (r32 : Int32) =>
        fxBP (fX12_getsBy a1 a2 a3 v23 v22 σ6) <| fun (r35 : Int32) =>
        if r32 ≤ r35 then (
          if w17 = a4 then (
            some (w18, σ6))
          else (
            fX12_rests_61 a1 a2 a3 a4 σ6 K8 n20 (w17 + 1) (w18 + 1)))
        else (
          fX12_rests_61 a1 a2 a3 a4 σ6 K8 n20 w17 (w18 + 1))))
def fX12_rests (a1 : Int32) (a2 : Int32) (a3 : Int32) (a4 : Int32) (σ : FH) : Option (Int32 × FH) :=
  fxBP (fX12_within a1 0 9 σ) <| fun (r2 : Int32) =>
  fxL (fun (y5 : Int32) =>
      fxL (fx_si σ 0 0 y5) <| fun (σ6 : FH) =>
      if (σ6.1 0 0) = 1 then (
        some ((0 : Int32), σ6))
      else (
        fxL (fun (x9 : Int32) =>
            fxL (α := Int32) (if a4 = (-1) then 0 else 1) <| fun (v10 : Int32) =>
            fxL (fx_si σ6 0 0 v10) <| fun (σ13 : FH) =>
            fxL (α := Int32) (if a4 = (-1) then x9 else 0) <| fun (v14 : Int32) =>
            some (v14, σ13)) <| fun K8 =>
        fX12_rests_61 a1 a2 a3 a4 σ6 K8 FU 0 0)) <| fun J4 =>
  fxL (
      J4 1) <| fun J40 =>
  if r2 = 0 then (
    J40)
  else (
    fxBP (fX12_within a2 0 9 σ) <| fun (r43 : Int32) =>
    if r43 = 0 then (
      J40)
    else (
      fxBP (fX12_within a3 0 9 σ) <| fun (r47 : Int32) =>
      if r47 = 0 then (
        J40)
      else (
        if a4 < (-1) then (
          J40)
        else (
          J4 0))))

def fX12_draws (a1 : Int32) (σ : FH) : Option (Int32 × FH) :=
  fxL (fx_sl σ 0 54 ((((σ.2.1 0 54) * 1103515245) + 12345) - (((σ.2.1 0 54) * 1103515245) + 12345) / 2147483648 * 2147483648)) <| fun (σ1 : FH) =>
  fxG (¬ (Int32.toInt64 a1) = 0) <|
  some ((Int64.toInt32 (((σ1.2.1 0 54) / 65536) - ((σ1.2.1 0 54) / 65536) / (Int32.toInt64 a1) * (Int32.toInt64 a1))), σ1)

def fX12_livesWeek  (σ : FH) : Option FH :=
  fxG (fx_in 0 6 = true) <|
  fxL (fun (σ3 : FH) =>
      fxBI (fX12_passes σ3) <| fun (r5 : Int32) (σ6 : FH) =>
      some σ6) <| fun J2 =>
  if (σ.1 2 (Int32.toNatClampNeg 0)) ≤ 0 then (
    J2 σ)
  else (
    fxG (fx_in 0 6 = true) <|
    fxBI (fX12_draws (σ.1 2 (Int32.toNatClampNeg 0)) σ) <| fun (r10 : Int32) (σ11 : FH) =>
    fxBI (fX12_draws 5 σ11) <| fun (r13 : Int32) (σ14 : FH) =>
    fxL (fun (y16 : Int32) (σ17 : FH) =>
        fxL (fun (σ19 : FH) =>
            fxL (fun (σ21 : FH) =>
                if r13 = 2 then (
                  fxBP (fX12_canJoin r10 y16 σ21) <| fun (r24 : Int32) =>
                  if r24 = 0 then (
                    J2 σ21)
                  else (
                    fxBV (fX12_joins r10 y16 σ21) <| fun (σ29 : FH) =>
                    J2 σ29))
                else (
                  J2 σ21)) <| fun J20 =>
            if r13 = 1 then (
              fxBI (fX12_works r10 y16 σ19) <| fun (r32 : Int32) (σ33 : FH) =>
              J20 σ33)
            else (
              J20 σ19)) <| fun J18 =>
        if r13 = 0 then (
          fxG (fx_in (3 + r10) 14 = true) <|
          fxG (fx_in (3 + r10) 14 = true) <|
          fxL (fx_si σ17 33 (Int32.toNatClampNeg (3 + r10)) (if 0 < ((σ17.1 33 (Int32.toNatClampNeg (3 + r10))) - y16) then ((σ17.1 33 (Int32.toNatClampNeg (3 + r10))) - y16) else 0)) <| fun (σ37 : FH) =>
          J18 σ37)
        else (
          J18 σ17)) <| fun J15 =>
    if 2 ≤ r13 then (
      if r13 = 2 then (
        fxG (fx_in 0 6 = true) <|
        fxBI (fX12_draws (σ14.1 2 (Int32.toNatClampNeg 0)) σ14) <| fun (r42 : Int32) (σ43 : FH) =>
        J15 r42 σ43)
      else (
        J15 0 σ14))
    else (
      fxBI (fX12_draws 20 σ14) <| fun (r45 : Int32) (σ46 : FH) =>
      J15 (r45 + 1) σ46))

def fX12_allDone_4 (σ : FH) (K1 : Int32 → Option Int32) : Nat → Int32 → Int32 → Option Int32
  | 0, _, _ => none
  | n6 + 1, w3, w4 =>
    if 6 ≤ w4 then (
      K1 w3)
    else (
      fxG (fx_in (3 + w4) 14 = true) <|
      fxL (α := Int32) (w3 + (σ.1 33 (Int32.toNatClampNeg (3 + w4)))) <| fun (v9 : Int32) =>
      fX12_allDone_4 σ K1 n6 v9 (w4 + 1))
def fX12_allDone  (σ : FH) : Option Int32 :=
  fxL (fun (x2 : Int32) =>
      some x2) <| fun K1 =>
  fX12_allDone_4 σ K1 FU 0 0

def fX12_terms_59 (a2 : Int32) (K18 : FH → Option (Int32 × FH)) : Nat → Int32 → FH → Option (Int32 × FH)
  | 0, _, _ => none
  | n39 + 1, w36, σ37 =>
    if a2 ≤ w36 then (
      K18 σ37)
    else (
      fxBV (fX12_livesWeek σ37) <| fun (σ43 : FH) =>
      fX12_terms_59 a2 K18 n39 (w36 + 1) σ43)
def fX12_terms (a1 : Int32) (a2 : Int32) (a3 : Int32) (σ : FH) : Option (Int32 × FH) :=
  fxL (fx_si σ 0 0 0) <| fun (σ1 : FH) =>
  fxBP (fX12_within a1 0 9999 σ1) <| fun (r3 : Int32) =>
  if r3 = 0 then (
    some (((-1) : Int32), σ1))
  else (
    fxBP (fX12_within a2 1 99 σ1) <| fun (r7 : Int32) =>
    if r7 = 0 then (
      some (((-1) : Int32), σ1))
    else (
      fxBP (fX12_within a3 0 2 σ1) <| fun (r11 : Int32) =>
      if r11 = 0 then (
        some (((-1) : Int32), σ1))
      else (
        fxL (fx_sl σ1 0 54 (Int32.toInt64 a1)) <| fun (σ14 : FH) =>
        fxBV (fX12_copies 33 14 0 34 14 0 σ14) <| fun (σ17 : FH) =>
        fxL (fun (σ19 : FH) =>
            fxG (fx_in 1 14 = true) <|
            fxG (fx_in 1 14 = true) <|
            fxL (α := Int32) ((σ19.1 33 (Int32.toNatClampNeg 1)) - (σ19.1 34 (Int32.toNatClampNeg 1))) <| fun (v22 : Int32) =>
            fxG (fx_in 2 14 = true) <|
            fxG (fx_in 2 14 = true) <|
            fxL (α := Int32) ((σ19.1 33 (Int32.toNatClampNeg 2)) - (σ19.1 34 (Int32.toNatClampNeg 2))) <| fun (v25 : Int32) =>
            fxBP (fX12_allDone σ19) <| fun (r27 : Int32) =>
            fxBV (fX12_copies 34 14 0 33 14 0 σ19) <| fun (σ31 : FH) =>
            fxL (α := Int32) (if a3 = 0 then v22 else (if a3 = 1 then v25 else r27)) <| fun (v32 : Int32) =>
            some (v32, σ31)) <| fun K18 =>
        fX12_terms_59 a2 K18 FU 0 σ17)))

def fX12_mark (a1 : Int32) (a2 : Int32) (σ : FH) : Option (Int32 × FH) :=
  fxL (fx_si σ 0 0 0) <| fun (σ1 : FH) =>
  fxBP (fX12_within a1 0 3 σ1) <| fun (r3 : Int32) =>
  if r3 = 0 then (
    some ((0 : Int32), σ1))
  else (
    fxL (
        fxG (fx_in a1 4 = true) <|
        fxL (fx_si σ1 38 (Int32.toNatClampNeg a1) (vp_nar .boolean 1)) <| fun (σ8 : FH) =>
        fxL (α := Int32) (if a2 = 0 then 0 else (1 + a1)) <| fun (v9 : Int32) =>
        fxL (α := Int32) (if a2 = 0 then (1 + a1) else 0) <| fun (v12 : Int32) =>
        fxBV (fX12_laysLines v9 v12 σ8) <| fun (σ17 : FH) =>
        fxBV (fX12_laysSaid v9 v12 σ17) <| fun (σ20 : FH) =>
        if a2 = 0 then (
          fxBV (fX12_copies 33 14 0 36 56 (14 * a1) σ20) <| fun (σ24 : FH) =>
          some ((1 : Int32), σ24))
        else (
          fxBV (fX12_copies 36 56 (14 * a1) 33 14 0 σ20) <| fun (σ27 : FH) =>
          fxL (fx_si σ27 0 51 0) <| fun (σ28 : FH) =>
          some ((1 : Int32), σ28))) <| fun J6 =>
    if a2 = 0 then (
      J6)
    else (
      fxG (fx_in a1 4 = true) <|
      if (σ1.1 38 (Int32.toNatClampNeg a1)) = 0 then (
        some ((0 : Int32), σ1))
      else (
        J6)))

def fX12_count (a1 : Int32) (σ : FH) : Option (Int32 × FH) :=
  fxL (fx_si σ 0 0 0) <| fun (σ1 : FH) =>
  fxBP (fX12_within a1 0 12 σ1) <| fun (r3 : Int32) =>
  if r3 = 0 then (
    some (((-1) : Int32), σ1))
  else (
    if 3 ≤ a1 then (
      if 6 ≤ a1 then (
        if 9 ≤ a1 then (
          if 11 ≤ a1 then (
            fxL (α := Int32) (if a1 = 11 then (σ1.1 0 51) else (σ1.1 0 1)) <| fun (v10 : Int32) =>
            some (v10, σ1))
          else (
            if a1 = 9 then (
              fxG (fx_in 0 6 = true) <|
              some ((σ1.1 25 (Int32.toNatClampNeg 0)), σ1))
            else (
              fxG (fx_in 0 5 = true) <|
              some ((σ1.1 30 (Int32.toNatClampNeg 0)), σ1))))
        else (
          if a1 = 6 then (
            fxBP (fX12_halves σ1) <| fun (r23 : Int32) =>
            some (r23, σ1))
          else (
            if a1 = 7 then (
              fxBP (fX12_allSeats σ1) <| fun (r20 : Int32) =>
              some (r20, σ1))
            else (
              fxG (fx_in 2 14 = true) <|
              some ((σ1.1 33 (Int32.toNatClampNeg 2)), σ1)))))
      else (
        if a1 = 3 then (
          fxG (fx_in 0 14 = true) <|
          some ((σ1.1 33 (Int32.toNatClampNeg 0)), σ1))
        else (
          if a1 = 4 then (
            fxG (fx_in 1 14 = true) <|
            some ((σ1.1 33 (Int32.toNatClampNeg 1)), σ1))
          else (
            fxBP (fX12_allDone σ1) <| fun (r28 : Int32) =>
            some (r28, σ1)))))
    else (
      fxG (fx_in a1 6 = true) <|
      some ((σ1.1 2 (Int32.toNatClampNeg a1)), σ1)))
