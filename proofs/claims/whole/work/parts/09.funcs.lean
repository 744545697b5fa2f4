/-- SteepleWords.need -/
def FX6_need (p0 : Int32) (σ : qH) : Option ((Unit) ⊕ String) :=
  if p0 = 0 then
    some (.inr "java/lang/IllegalArgumentException")
  else
    some (.inl ())
/-- SteepleWords$Text.isFull -/
def FX5_isFull (b : Nat) (σ : qH) : Option (Int32) :=
  b1 (gC σ b 3) fun _ =>
  b1 (gI σ b 3 1) fun v1 =>
  b1 ((
      if v1 < (120 : Int32) then
        some (0 : Int32)
      else
        some (1 : Int32)
    ) : Option (Int32)) fun x3 =>
  if x3 = 0 ∨ x3 = 1 then
    some x3
  else none
/-- SteepleWords$Text.add -/
def FX5_add (b : Nat) (p0 : Int32) (σ : qH) : Option (Int32 × qH) :=
  b1 (gC σ b 3) fun _ =>
  b1 (gR σ b 3 0) fun r1 =>
  b1 (gI σ b 3 1) fun v3 =>
  b1 (sI σ r1 v3 p0) fun s5 =>
  b1 (gI s5 b 3 1) fun v7 =>
  b1 (gP s5 b 3 1 (.int (v7 + (1 : Int32)))) fun s9 =>
  b1 (gI s9 b 3 1) fun v11 =>
  some (v11, s9)
/-- SteepleWords.append -/
def FX6_append (b : Nat) (p0 : Int32) (σ : qH) : Option ((Int32 × qH) ⊕ (String × qH)) :=
  b1 (gC σ b 4) fun _ =>
  b1 ((
      if p0 < (0 : Int32) then
        some (0 : Int32)
      else
        if (255 : Int32) < p0 then
          some (0 : Int32)
        else
          some (1 : Int32)
    ) : Option (Int32)) fun x1 =>
  bxw (FX6_need x1 σ) σ fun _ =>
  b1 (gR σ b 4 5) fun r4 =>
  b1 (FX5_isFull r4 σ) fun v7 =>
  if v7 = 0 then
    b1 (gR σ b 4 5) fun r8 =>
    b2 (FX5_add r8 p0 σ) fun v11 s12 =>
    some (.inl (v11, s12))
  else
    some (.inr ("java/lang/IllegalStateException", σ))
/-- SteepleWords$Text.empty -/
def FX5_empty (b : Nat) (σ : qH) : Option (Int32 × qH) :=
  b1 (gC σ b 3) fun _ =>
  b1 (gI σ b 3 1) fun v1 =>
  b1 (gP σ b 3 1 (.int (0 : Int32))) fun s3 =>
  some (v1, s3)
/-- SteepleWords.clearText -/
def FX6_clearText (b : Nat) (σ : qH) : Option (Int32 × qH) :=
  b1 (gC σ b 4) fun _ =>
  b1 (gR σ b 4 5) fun r1 =>
  b2 (FX5_empty r1 σ) fun v4 s5 =>
  some (v4, s5)
/-- SteepleWords$Text.signHere -/
def FX5_signHere (b : Nat) (σ : qH) : Option (Int32) :=
  b1 (gC σ b 3) fun _ =>
  b1 (gI σ b 3 2) fun v1 =>
  b1 (gI σ b 3 1) fun v3 =>
  b1 ((
      if v3 ≤ v1 then
        some (-1 : Int32)
      else
        b1 (gR σ b 3 0) fun r6 =>
        b1 (gI σ b 3 2) fun v8 =>
        b1 (aI σ r6 v8) fun v10 =>
        some v10
    ) : Option (Int32)) fun x5 =>
  some x5
/-- SteepleWords$Text.readHead -/
def FX5_readHead (b : Nat) (σ : qH) : Option (Int32 × qH) :=
  b1 (gC σ b 3) fun _ =>
  b1 (gP σ b 3 2 (.int (0 : Int32))) fun s1 =>
  b1 (FX5_signHere b s1) fun v4 =>
  if v4 = (80 : Int32) then
    b1 (gP s1 b 3 2 (.int (1 : Int32))) fun s5 =>
    some ((1 : Int32), s5)
  else
    some ((0 : Int32), s1)
/-- SteepleWords$Text.leadsInto -/
def FX5_leadsInto_L9 (a1 : Int32) (a2 : Int32) (a3 : Int32) (σ : qH) : Nat → Int32 → Int32 → Int32 → Option (Int32 × Int32)
  | 0, _, _, _ => none
  | q + 1, y4, y5, y6 =>
    if a1 ≤ y6 then
      some (y4, y5)
    else
      FX5_leadsInto_L9 a1 a2 a3 σ q ((10 : Int32) * y4) (((10 : Int32) * y5) + (9 : Int32)) (y6 + (1 : Int32))
def FX5_leadsInto (p0 : Int32) (p1 : Int32) (p2 : Int32) (p3 : Int32) (σ : qH) : Option (Int32) :=
  b2 (FX5_leadsInto_L9 p1 p2 p3 σ qfuel p0 p0 (0 : Int32)) fun x1 x2 =>
  b1 ((
      if p3 < x1 then
        some (0 : Int32)
      else
        if x2 < p2 then
          some (0 : Int32)
        else
          some (1 : Int32)
    ) : Option (Int32)) fun x3 =>
  if x3 = 0 ∨ x3 = 1 then
    some x3
  else none
/-- SteepleWords$Text.readNumber -/
def FX5_readNumber_L8 (a0 : Nat) (a2 : Int32) (a3 : Int32) : Nat → Int32 → Int32 → qH → Option (Int32 × qH)
  | 0, _, _, _ => none
  | q + 1, y4, y5, σ =>
    if y5 < 0 then
      some (y4, σ)
    else
      b1 (FX5_signHere a0 σ) fun v2 =>
      if v2 < (48 : Int32) then
        some ((-1 : Int32), σ)
      else
        if (57 : Int32) < v2 then
          some ((-1 : Int32), σ)
        else
          b1 (FX5_leadsInto ((((10 : Int32) * y4) + v2) - (48 : Int32)) y5 a2 a3 σ) fun v4 =>
          if v4 = 0 then
            some ((-1 : Int32), σ)
          else
            b1 (gI σ a0 3 2) fun v5 =>
            b1 (gP σ a0 3 2 (.int (v5 + (1 : Int32)))) fun s7 =>
            FX5_readNumber_L8 a0 a2 a3 q ((((10 : Int32) * y4) + v2) - (48 : Int32)) (y5 + (-1 : Int32)) s7
def FX5_readNumber (b : Nat) (p0 : Int32) (p1 : Int32) (p2 : Int32) (σ : qH) : Option (Int32 × qH) :=
  b1 (gC σ b 3) fun _ =>
  FX5_readNumber_L8 b p1 p2 qfuel (0 : Int32) (p0 - (1 : Int32)) σ
/-- SteepleWords$Text.readNumbers -/
def FX5_readNumbers_L12 (a0 : Nat) (a1 : Nat) : Nat → Int32 → qH → Option (Int32 × qH)
  | 0, _, _ => none
  | q + 1, y2, σ =>
    if (6 : Int32) ≤ y2 then
      some ((1 : Int32), σ)
    else
      b1 (aL σ a1) fun v5 =>
      if v5 ≤ (((3 : Int32) * y2) + (2 : Int32)) then
        some ((1 : Int32), σ)
      else
        b1 (gR σ a0 3 4) fun r7 =>
        b1 (aI σ a1 ((3 : Int32) * y2)) fun v9 =>
        b1 (aI σ a1 (((3 : Int32) * y2) + (1 : Int32))) fun v11 =>
        b1 (aI σ a1 (((3 : Int32) * y2) + (2 : Int32))) fun v13 =>
        b2 (FX5_readNumber a0 v9 v11 v13 σ) fun v16 s17 =>
        b1 (sI s17 r7 y2 v16) fun s18 =>
        b1 (gR s18 a0 3 4) fun r20 =>
        b1 (aI s18 r20 y2) fun v22 =>
        if v22 = (-1 : Int32) then
          some ((0 : Int32), s18)
        else
          FX5_readNumbers_L12 a0 a1 q (y2 + (1 : Int32)) s18
def FX5_readNumbers (b : Nat) (p0 : Nat) (σ : qH) : Option (Int32 × qH) :=
  b1 (gC σ b 3) fun _ =>
  b1 (gI σ b 3 2) fun v1 =>
  b1 (gP σ b 3 2 (.int (v1 + (1 : Int32)))) fun s3 =>
  FX5_readNumbers_L12 b p0 qfuel (0 : Int32) s3
/-- SteepleWords$Text.readCommand -/
def FX5_readCommand (tst : Nat → Nat) (b : Nat) (σ : qH) : Option (Int32 × qH) :=
  b1 (gC σ b 3) fun _ =>
  b1 (FX5_signHere b σ) fun v2 =>
  b1 (gP σ b 3 3 (.int v2)) fun s3 =>
  b1 (gI s3 b 3 3) fun v5 =>
  if v5 = (100 : Int32) then
    b2 (FX5_readNumbers b (tst 3) s3) fun v8 s9 =>
    if v8 = 0 ∨ v8 = 1 then
      some (v8, s9)
    else none
  else
  if v5 = (111 : Int32) then
    b2 (FX5_readNumbers b (tst 1) s3) fun v12 s13 =>
    if v12 = 0 ∨ v12 = 1 then
      some (v12, s13)
    else none
  else
  if v5 = (113 : Int32) then
    b2 (FX5_readNumbers b (tst 5) s3) fun v16 s17 =>
    if v16 = 0 ∨ v16 = 1 then
      some (v16, s17)
    else none
  else
  if v5 = (115 : Int32) then
    b2 (FX5_readNumbers b (tst 0) s3) fun v20 s21 =>
    if v20 = 0 ∨ v20 = 1 then
      some (v20, s21)
    else none
  else
  if v5 = (116 : Int32) then
    b2 (FX5_readNumbers b (tst 4) s3) fun v24 s25 =>
    if v24 = 0 ∨ v24 = 1 then
      some (v24, s25)
    else none
  else
  if v5 = (118 : Int32) then
    b2 (FX5_readNumbers b (tst 6) s3) fun v28 s29 =>
    if v28 = 0 ∨ v28 = 1 then
      some (v28, s29)
    else none
  else
  if v5 = (119 : Int32) then
    b2 (FX5_readNumbers b (tst 2) s3) fun v32 s33 =>
    if v32 = 0 ∨ v32 = 1 then
      some (v32, s33)
    else none
  else
  some ((0 : Int32), s3)
/-- SteepleWords$Text.findError -/
def FX5_findError_L14 (tst : Nat → Nat) (a0 : Nat) : Nat → Int32 → qH → Option (Int32 × qH)
  | 0, _, _ => none
  | q + 1, y1, σ =>
    if (120 : Int32) ≤ y1 then
      some ((-1 : Int32), σ)
    else
      b1 (gI σ a0 3 2) fun v6 =>
      b1 (gI σ a0 3 1) fun v8 =>
      if v8 ≤ v6 then
        some ((-1 : Int32), σ)
      else
        b2 (FX5_readCommand tst a0 σ) fun v11 s12 =>
        if v11 = 0 then
          b1 (gI s12 a0 3 2) fun v13 =>
          some (v13, s12)
        else
          FX5_findError_L14 tst a0 q (y1 + (1 : Int32)) s12
def FX5_findError (tst : Nat → Nat) (b : Nat) (σ : qH) : Option (Int32 × qH) :=
  b1 (gC σ b 3) fun _ =>
  b2 (FX5_readHead b σ) fun v2 s3 =>
  if v2 = 0 then
    b1 (gI s3 b 3 2) fun v4 =>
    some (v4, s3)
  else
    FX5_findError_L14 tst b qfuel (0 : Int32) s3
/-- SteepleWords.errorPosition -/
def FX6_errorPosition (tst : Nat → Nat) (b : Nat) (σ : qH) : Option (Int32 × qH) :=
  b1 (gC σ b 4) fun _ =>
  b1 (gR σ b 4 5) fun r1 =>
  b2 (FX5_findError tst r1 σ) fun v4 s5 =>
  some (v4, s5)
/-- java/util/Arrays.fill -/
def FJ7_fill_53178_L5 (a0 : Nat) (a1 : Int32) (a3 : Int32) : Nat → Int32 → qH → Option (qH)
  | 0, _, _ => none
  | q + 1, y2, σ =>
    if a3 ≤ y2 then
      some σ
    else
      b1 (sI σ a0 y2 a1) fun s3 =>
      FJ7_fill_53178_L5 a0 a1 a3 q (y2 + (1 : Int32)) s3
def FJ7_fill_53178 (p0 : Nat) (p1 : Int32) (σ : qH) : Option (qH) :=
  b1 (aL σ p0) fun v1 =>
  b1 (FJ7_fill_53178_L5 p0 p1 v1 qfuel (0 : Int32) σ) fun s5 =>
  some s5
/-- SteepleWords$Parish.makeNew -/
def FX2_makeNew (b : Nat) (σ : qH) : Option (qH) :=
  b1 (gC σ b 2) fun _ =>
  b1 (gR σ b 2 0) fun r1 =>
  b1 (FJ7_fill_53178 r1 (0 : Int32) σ) fun s4 =>
  b1 (gR s4 b 2 1) fun r5 =>
  b1 (FJ7_fill_53178 r5 (5 : Int32) s4) fun s8 =>
  b1 (gR s8 b 2 2) fun r9 =>
  b1 (FJ7_fill_53178 r9 (0 : Int32) s8) fun s12 =>
  b1 (gR s12 b 2 3) fun r13 =>
  b1 (FJ7_fill_53178 r13 (0 : Int32) s12) fun s16 =>
  b1 (gR s16 b 2 4) fun r17 =>
  b1 (FJ7_fill_53178 r17 (-1 : Int32) s16) fun s20 =>
  b1 (gR s20 b 2 5) fun r21 =>
  b1 (sI s20 r21 (0 : Int32) (1 : Int32)) fun s23 =>
  b1 (gR s23 b 2 5) fun r25 =>
  b1 (sI s23 r25 (1 : Int32) (5 : Int32)) fun s27 =>
  b1 (gP s27 b 2 6 (.int (0 : Int32))) fun s29 =>
  b1 (gP s29 b 2 7 (.int (0 : Int32))) fun s31 =>
  b1 (gP s31 b 2 8 (.int (0 : Int32))) fun s33 =>
  b1 (gP s33 b 2 9 (.int (0 : Int32))) fun s35 =>
  b1 (gP s35 b 2 10 (.int (0 : Int32))) fun s37 =>
  some s37
/-- SteepleWords$History.forget -/
def FX1_forget (b : Nat) (σ : qH) : Option (qH) :=
  b1 (gC σ b 1) fun _ =>
  b1 (gP σ b 1 2 (.int (0 : Int32))) fun s1 =>
  some s1
/-- SteepleWords$Text.number -/
def FX5_number (b : Nat) (p0 : Int32) (σ : qH) : Option (Int32) :=
  b1 (gC σ b 3) fun _ =>
  b1 (gR σ b 3 4) fun r1 =>
  b1 (aI σ r1 p0) fun v3 =>
  some v3
/-- SteepleWords$Text.command -/
def FX5_command (b : Nat) (σ : qH) : Option (Int32) :=
  b1 (gC σ b 3) fun _ =>
  b1 (gI σ b 3 3) fun v1 =>
  some v1
/-- SteepleWords$Parish.isSteeple -/
def FX2_isSteeple (p0 : Int32) (σ : qH) : Option (Int32) :=
  b1 ((
      if p0 < (0 : Int32) then
        some (0 : Int32)
      else
        if (3 : Int32) ≤ p0 then
          some (0 : Int32)
        else
          some (1 : Int32)
    ) : Option (Int32)) fun x1 =>
  if x1 = 0 ∨ x1 = 1 then
    some x1
  else none
/-- SteepleWords$Parish.isTeller -/
def FX2_isTeller (p0 : Int32) (σ : qH) : Option (Int32) :=
  b1 ((
      if p0 < (0 : Int32) then
        some (0 : Int32)
      else
        if (6 : Int32) ≤ p0 then
          some (0 : Int32)
        else
          some (1 : Int32)
    ) : Option (Int32)) fun x1 =>
  if x1 = 0 ∨ x1 = 1 then
    some x1
  else none
/-- SteepleWords$Parish.fitsFarSide -/
def FX2_fitsFarSide (p0 : Int32) (p1 : Int32) (σ : qH) : Option (Int32) :=
  b1 ((
      if p0 < (1 : Int32) then
        some (0 : Int32)
      else
        if (400 : Int32) < p0 then
          some (0 : Int32)
        else
          if p1 < (0 : Int32) then
            some (0 : Int32)
          else
            if (20 : Int32) < p1 then
              some (0 : Int32)
            else
              some (1 : Int32)
    ) : Option (Int32)) fun x1 =>
  if x1 = 0 ∨ x1 = 1 then
    some x1
  else none
/-- SteepleWords$Parish.isHeight -/
def FX2_isHeight (p0 : Int32) (σ : qH) : Option (Int32) :=
  b1 ((
      if p0 < (1 : Int32) then
        some (0 : Int32)
      else
        if (999 : Int32) < p0 then
          some (0 : Int32)
        else
          some (1 : Int32)
    ) : Option (Int32)) fun x1 =>
  if x1 = 0 ∨ x1 = 1 then
    some x1
  else none
/-- SteepleWords$Parish.fits -/
def FX2_fits (p0 : Int32) (p1 : Int32) (p2 : Int32) (p3 : Int32) (p4 : Int32) (σ : qH) : Option (Int32) :=
  if p0 = (0 : Int32) then
    b1 ((
        if p1 < (1 : Int32) then
          some (0 : Int32)
        else
          if (20 : Int32) < p1 then
            some (0 : Int32)
          else
            if p2 < (1 : Int32) then
              some (0 : Int32)
            else
              if (40 : Int32) < p2 then
                some (0 : Int32)
              else
                b1 (FX2_fitsFarSide p3 p4 σ) fun v3 =>
                if v3 = 0 then
                  some (0 : Int32)
                else
                  some (1 : Int32)
      ) : Option (Int32)) fun x1 =>
    if x1 = 0 ∨ x1 = 1 then
      some x1
    else none
  else
  if p0 = (1 : Int32) then
    b1 ((
        if p1 < (1 : Int32) then
          some (0 : Int32)
        else
          if (9 : Int32) < p1 then
            some (0 : Int32)
          else
            if p2 < (1 : Int32) then
              some (0 : Int32)
            else
              if (60 : Int32) < p2 then
                some (0 : Int32)
              else
                b1 (FX2_fitsFarSide p3 p4 σ) fun v8 =>
                if v8 = 0 then
                  some (0 : Int32)
                else
                  some (1 : Int32)
      ) : Option (Int32)) fun x6 =>
    if x6 = 0 ∨ x6 = 1 then
      some x6
    else none
  else
  if p0 = (2 : Int32) then
    b1 (FX2_isHeight p1 σ) fun v12 =>
    b1 ((
        if v12 = 0 then
          some (0 : Int32)
        else
          b1 (FX2_isHeight p2 σ) fun v15 =>
          if v15 = 0 then
            some (0 : Int32)
          else
            if p2 < p1 then
              some (0 : Int32)
            else
              if p3 = 0 then
                if p4 = 0 then
                  some (1 : Int32)
                else
                  some (0 : Int32)
              else
                some (0 : Int32)
      ) : Option (Int32)) fun x13 =>
    if x13 = 0 ∨ x13 = 1 then
      some x13
    else none
  else
  some (0 : Int32)
/-- SteepleWords$Parish.isFull -/
def FX2_isFull (b : Nat) (σ : qH) : Option (Int32) :=
  b1 (gC σ b 2) fun _ =>
  b1 (gI σ b 2 6) fun v1 =>
  b1 ((
      if v1 < (16 : Int32) then
        some (0 : Int32)
      else
        some (1 : Int32)
    ) : Option (Int32)) fun x3 =>
  if x3 = 0 ∨ x3 = 1 then
    some x3
  else none
/-- java/lang/Math.floorDiv -/
def FJ9_floorDiv_7cf53 (p0 : Int32) (p1 : Int32) (σ : qH) : Option (Int32) :=
  if p1 = 0 then none else
  if 0 ≤ (p0 ^^^ p1) then
    some (p0 / p1)
  else
    if ((p0 / p1) * p1) = p0 then
      some (p0 / p1)
    else
      some ((p0 / p1) - (1 : Int32))
/-- SteepleWords$Parish.leastHeight -/
def FX2_leastHeight (p0 : Int32) (p1 : Int32) (p2 : Int32) (σ : qH) : Option (Int32) :=
  b1 ((
      if (1 : Int32) ≤ p1 then
        b1 (FJ9_floorDiv_7cf53 (p0 * p2) p1 σ) fun v3 =>
        some v3
      else
        some (1 : Int32)
    ) : Option (Int32)) fun x1 =>
  some x1
/-- java/lang/Math.min -/
def FJ9_min_7cf53 (p0 : Int32) (p1 : Int32) (σ : qH) : Option (Int32) :=
  b1 ((
      if p1 < p0 then
        some p1
      else
        some p0
    ) : Option (Int32)) fun x1 =>
  some x1
/-- java/lang/Math.max -/
def FJ9_max_7cf53 (p0 : Int32) (p1 : Int32) (σ : qH) : Option (Int32) :=
  b1 ((
      if p0 < p1 then
        some p1
      else
        some p0
    ) : Option (Int32)) fun x1 =>
  some x1
/-- SteepleWords$Parish.withinFeet -/
def FX2_withinFeet (p0 : Int32) (σ : qH) : Option (Int32) :=
  b1 (FJ9_min_7cf53 (999 : Int32) p0 σ) fun v2 =>
  b1 (FJ9_max_7cf53 (1 : Int32) v2 σ) fun v4 =>
  some v4
/-- SteepleWords$Parish.greatestHeight -/
def FX2_greatestHeight (p0 : Int32) (p1 : Int32) (p2 : Int32) (σ : qH) : Option (Int32) :=
  b1 ((
      if (1 : Int32) ≤ p1 then
        if p1 = 0 then none else
        some ((((p0 * p2) + p1) - (1 : Int32)) / p1)
      else
        some (1 : Int32)
    ) : Option (Int32)) fun x1 =>
  some x1
/-- SteepleWords$Parish.addMeasure -/
def FX2_addMeasure (b : Nat) (p0 : Int32) (p1 : Int32) (p2 : Int32) (p3 : Int32) (p4 : Int32) (p5 : Int32) (p6 : Int32) (σ : qH) : Option (Int32 × qH) :=
  b1 (gC σ b 2) fun _ =>
  b1 (gI σ b 2 6) fun v1 =>
  b1 (gR σ b 2 0) fun r3 =>
  b1 (sI σ r3 ((v1 * (9 : Int32)) + (0 : Int32)) p0) fun s5 =>
  b1 (gR s5 b 2 0) fun r7 =>
  b1 (sI s5 r7 ((v1 * (9 : Int32)) + (1 : Int32)) p1) fun s9 =>
  b1 (gR s9 b 2 0) fun r11 =>
  b1 (sI s9 r11 ((v1 * (9 : Int32)) + (2 : Int32)) p2) fun s13 =>
  b1 (gR s13 b 2 0) fun r15 =>
  b1 (sI s13 r15 ((v1 * (9 : Int32)) + (3 : Int32)) p3) fun s17 =>
  b1 (gR s17 b 2 0) fun r19 =>
  b1 (sI s17 r19 ((v1 * (9 : Int32)) + (4 : Int32)) p4) fun s21 =>
  b1 (gR s21 b 2 0) fun r23 =>
  b1 (sI s21 r23 ((v1 * (9 : Int32)) + (5 : Int32)) p5) fun s25 =>
  b1 (gR s25 b 2 0) fun r27 =>
  b1 (sI s25 r27 ((v1 * (9 : Int32)) + (6 : Int32)) p6) fun s29 =>
  b1 (gR s29 b 2 0) fun r31 =>
  b1 ((
      if p2 = (2 : Int32) then
        some p3
      else
        b1 (FX2_leastHeight p3 p4 (p5 - p6) s29) fun v35 =>
        some v35
    ) : Option (Int32)) fun x33 =>
  b1 (FX2_withinFeet x33 s29) fun v37 =>
  b1 (sI s29 r31 ((v1 * (9 : Int32)) + (7 : Int32)) v37) fun s38 =>
  b1 (gR s38 b 2 0) fun r40 =>
  b1 ((
      if p2 = (2 : Int32) then
        some p4
      else
        b1 (FX2_greatestHeight p3 p4 (p5 + p6) s38) fun v44 =>
        some v44
    ) : Option (Int32)) fun x42 =>
  b1 (FX2_withinFeet x42 s38) fun v46 =>
  b1 (sI s38 r40 ((v1 * (9 : Int32)) + (8 : Int32)) v46) fun s47 =>
  b1 (gI s47 b 2 6) fun v49 =>
  b1 (gP s47 b 2 6 (.int (v49 + (1 : Int32)))) fun s51 =>
  b1 (gI s51 b 2 7) fun v53 =>
  b1 (gP s51 b 2 7 (.int (v53 + (1 : Int32)))) fun s55 =>
  b1 (gI s55 b 2 6) fun v57 =>
  some ((v57 - (1 : Int32)), s55)
/-- SteepleWords$Parish.tryMeasure -/
def FX2_tryMeasure (b : Nat) (p0 : Int32) (p1 : Int32) (p2 : Int32) (p3 : Int32) (p4 : Int32) (p5 : Int32) (p6 : Int32) (σ : qH) : Option (Int32 × qH) :=
  b1 (gC σ b 2) fun _ =>
  b1 (FX2_isSteeple p0 σ) fun v2 =>
  if v2 = 0 then
    some ((0 : Int32), σ)
  else
    b1 (FX2_isTeller p1 σ) fun v4 =>
    if v4 = 0 then
      some ((0 : Int32), σ)
    else
      b1 (FX2_fits p2 p3 p4 p5 p6 σ) fun v6 =>
      if v6 = 0 then
        some ((0 : Int32), σ)
      else
        b1 (FX2_isFull b σ) fun v8 =>
        if v8 = 0 then
          b2 (FX2_addMeasure b p0 p1 p2 p3 p4 p5 p6 σ) fun v10 s11 =>
          some ((1 : Int32), s11)
        else
          some ((0 : Int32), σ)
/-- SteepleWords$Parish.hasMeasure -/
def FX2_hasMeasure (b : Nat) (p0 : Int32) (σ : qH) : Option (Int32) :=
  b1 (gC σ b 2) fun _ =>
  b1 ((
      if p0 < (0 : Int32) then
        some (0 : Int32)
      else
        b1 (gI σ b 2 6) fun v2 =>
        if v2 ≤ p0 then
          some (0 : Int32)
        else
          some (1 : Int32)
    ) : Option (Int32)) fun x1 =>
  if x1 = 0 ∨ x1 = 1 then
    some x1
  else none
/-- SteepleWords$Parish.removeMeasure -/
def FX2_removeMeasure (b : Nat) (p0 : Int32) (σ : qH) : Option (Int32 × qH) :=
  b1 (gC σ b 2) fun _ =>
  b1 (gI σ b 2 6) fun v1 =>
  b1 (gR σ b 2 0) fun r3 =>
  b1 (gR σ b 2 0) fun r5 =>
  b1 (sC σ r3 ((p0 + (1 : Int32)) * (9 : Int32)) r5 (p0 * (9 : Int32)) (((v1 - (1 : Int32)) - p0) * (9 : Int32))) fun s7 =>
  b1 (gI s7 b 2 6) fun v9 =>
  b1 (gP s7 b 2 6 (.int (v9 - (1 : Int32)))) fun s11 =>
  b1 (gI s11 b 2 6) fun v13 =>
  some (v13, s11)
/-- SteepleWords$Parish.tryDrop -/
def FX2_tryDrop (b : Nat) (p0 : Int32) (σ : qH) : Option (Int32 × qH) :=
  b1 (gC σ b 2) fun _ =>
  b1 (FX2_hasMeasure b p0 σ) fun v2 =>
  if v2 = 0 then
    some ((0 : Int32), σ)
  else
    b2 (FX2_removeMeasure b p0 σ) fun v4 s5 =>
    some ((1 : Int32), s5)
/-- SteepleWords$Parish.isTrust -/
def FX2_isTrust (p0 : Int32) (σ : qH) : Option (Int32) :=
  b1 ((
      if p0 < (0 : Int32) then
        some (0 : Int32)
      else
        if (9 : Int32) < p0 then
          some (0 : Int32)
        else
          some (1 : Int32)
    ) : Option (Int32)) fun x1 =>
  if x1 = 0 ∨ x1 = 1 then
    some x1
  else none
/-- SteepleWords$Parish.changeTrust -/
def FX2_changeTrust (b : Nat) (p0 : Int32) (p1 : Int32) (σ : qH) : Option (Int32 × qH) :=
  b1 (gC σ b 2) fun _ =>
  b1 (gR σ b 2 1) fun r1 =>
  b1 (aI σ r1 p0) fun v3 =>
  b1 (gR σ b 2 1) fun r5 =>
  b1 (sI σ r5 p0 p1) fun s7 =>
  some (v3, s7)
/-- SteepleWords$Parish.tryTrust -/
def FX2_tryTrust (b : Nat) (p0 : Int32) (p1 : Int32) (σ : qH) : Option (Int32 × qH) :=
  b1 (gC σ b 2) fun _ =>
  b1 (FX2_isTeller p0 σ) fun v2 =>
  if v2 = 0 then
    some ((0 : Int32), σ)
  else
    b1 (FX2_isTrust p1 σ) fun v4 =>
    if v4 = 0 then
      some ((0 : Int32), σ)
    else
      b2 (FX2_changeTrust b p0 p1 σ) fun v6 s7 =>
      some ((1 : Int32), s7)
/-- SteepleWords$Parish.number -/
def FX2_number (b : Nat) (p0 : Int32) (p1 : Int32) (σ : qH) : Option (Int32) :=
  b1 (gC σ b 2) fun _ =>
  b1 (gR σ b 2 0) fun r1 =>
  b1 (aI σ r1 ((p0 * (9 : Int32)) + p1)) fun v3 =>
  some v3
/-- SteepleWords$Parish.feetApart -/
def FX2_feetApart (b : Nat) (p0 : Int32) (p1 : Int32) (σ : qH) : Option (Int32) :=
  b1 (gC σ b 2) fun _ =>
  b1 (FX2_number b p0 (0 : Int32) σ) fun v2 =>
  b1 (FX2_number b p1 (0 : Int32) σ) fun v4 =>
  if v2 = v4 then
    b1 (FX2_number b p0 (7 : Int32) σ) fun v6 =>
    b1 (FX2_number b p1 (8 : Int32) σ) fun v8 =>
    b1 (FX2_number b p1 (7 : Int32) σ) fun v10 =>
    b1 (FX2_number b p0 (8 : Int32) σ) fun v12 =>
    b1 (FJ9_max_7cf53 (v6 - v8) (v10 - v12) σ) fun v14 =>
    b1 (FJ9_max_7cf53 (0 : Int32) v14 σ) fun v16 =>
    some v16
  else
    some (-1 : Int32)
/-- SteepleWords$Parish.matters -/
def FX2_matters (b : Nat) (p0 : Int32) (p1 : Int32) (σ : qH) : Option (Int32) :=
  b1 (gC σ b 2) fun _ =>
  b1 (FX2_number b p0 (1 : Int32) σ) fun v2 =>
  b1 (FX2_number b p1 (1 : Int32) σ) fun v4 =>
  b1 ((
      if v2 = v4 then
        some (0 : Int32)
      else
        b1 (FX2_feetApart b p0 p1 σ) fun v7 =>
        b1 (gR σ b 2 5) fun r8 =>
        b1 (aI σ r8 (1 : Int32)) fun v10 =>
        if v7 ≤ v10 then
          some (0 : Int32)
        else
          some (1 : Int32)
    ) : Option (Int32)) fun x5 =>
  if x5 = 0 ∨ x5 = 1 then
    some x5
  else none
/-- SteepleWords$Parish.weight -/
def FX2_weight (b : Nat) (p0 : Int32) (σ : qH) : Option (Int32) :=
  b1 (gC σ b 2) fun _ =>
  b1 (gR σ b 2 1) fun r1 =>
  b1 (FX2_number b p0 (1 : Int32) σ) fun v4 =>
  b1 (aI σ r1 v4) fun v5 =>
  b1 (FX2_number b p0 (2 : Int32) σ) fun v8 =>
  b1 ((
      if v8 = (2 : Int32) then
        some (0 : Int32)
      else
        b1 (gR σ b 2 5) fun r10 =>
        b1 (aI σ r10 (0 : Int32)) fun v12 =>
        some v12
    ) : Option (Int32)) fun x9 =>
  some (v5 + x9)
/-- SteepleWords$Parish.shameLighter -/
def FX2_shameLighter (b : Nat) (p0 : Int32) (p1 : Int32) (σ : qH) : Option (qH) :=
  b1 (gC σ b 2) fun _ =>
  b1 (FX2_weight b p0 σ) fun v2 =>
  b1 (FX2_weight b p1 σ) fun v4 =>
  b1 ((
      if (v2 - v4) = 0 then
        some σ
      else
        b1 ((
            if 0 ≤ (v2 - v4) then
              some p1
            else
              some p0
          ) : Option (Int32)) fun x6 =>
        b1 (FX2_number b x6 (1 : Int32) σ) fun v8 =>
        b1 (gR σ b 2 1) fun r9 =>
        b1 (aI σ r9 v8) fun v11 =>
        if v11 ≤ 0 then
          some σ
        else
          b1 (gR σ b 2 1) fun r13 =>
          b1 (aI σ r13 v8) fun v15 =>
          b1 (sI σ r13 v8 (v15 - (1 : Int32))) fun s17 =>
          b1 (gI s17 b 2 10) fun v19 =>
          b1 (gP s17 b 2 10 (.int (v19 + (1 : Int32)))) fun s21 =>
          some s21
    ) : Option (qH)) fun s5 =>
  some s5
/-- SteepleWords$Parish.passEvening -/
def FX2_passEvening_L19 (a0 : Nat) (a1 : Int32) (a2 : Int32) : Nat → Int32 → qH → Option (qH)
  | 0, _, _ => none
  | q + 1, y3, σ =>
    b1 (gI σ a0 2 6) fun v5 =>
    if v5 ≤ y3 then
      some σ
    else
      b1 (FX2_matters a0 a2 y3 σ) fun v8 =>
      b1 ((
          if v8 = 0 then
            some σ
          else
            b1 (FX2_shameLighter a0 a2 y3 σ) fun s11 =>
            some s11
        ) : Option (qH)) fun s9 =>
      FX2_passEvening_L19 a0 a1 a2 q (y3 + (1 : Int32)) s9
def FX2_passEvening_L7 (a0 : Nat) (a1 : Int32) : Nat → Int32 → qH → Option (qH)
  | 0, _, _ => none
  | q + 1, y2, σ =>
    b1 (gI σ a0 2 6) fun v3 =>
    if v3 ≤ y2 then
      some σ
    else
      b1 (FX2_passEvening_L19 a0 a1 y2 qfuel (y2 + (1 : Int32)) σ) fun s13 =>
      FX2_passEvening_L7 a0 a1 q (y2 + (1 : Int32)) s13
def FX2_passEvening (b : Nat) (σ : qH) : Option (Int32 × qH) :=
  b1 (gC σ b 2) fun _ =>
  b1 (gI σ b 2 10) fun v1 =>
  b1 (FX2_passEvening_L7 b v1 qfuel (0 : Int32) σ) fun s15 =>
  b1 (gI s15 b 2 8) fun v16 =>
  b1 (gP s15 b 2 8 (.int (v16 + (1 : Int32)))) fun s18 =>
  b1 (gI s18 b 2 10) fun v20 =>
  some ((v20 - v1), s18)
/-- SteepleWords$Parish.isOf -/
def FX2_isOf (b : Nat) (p0 : Int32) (p1 : Int32) (σ : qH) : Option (Int32) :=
  b1 (gC σ b 2) fun _ =>
  b1 (FX2_number b p0 (0 : Int32) σ) fun v2 =>
  b1 ((
      if v2 = p1 then
        some (1 : Int32)
      else
        some (0 : Int32)
    ) : Option (Int32)) fun x3 =>
  if x3 = 0 ∨ x3 = 1 then
    some x3
  else none
/-- SteepleWords$Parish.tells -/
def FX2_tells (b : Nat) (p0 : Int32) (p1 : Int32) (σ : qH) : Option (Int32) :=
  b1 (gC σ b 2) fun _ =>
  b1 (FX2_number b p0 (7 : Int32) σ) fun v2 =>
  b1 ((
      if p1 < v2 then
        some (0 : Int32)
      else
        b1 (FX2_number b p0 (8 : Int32) σ) fun v5 =>
        if v5 < p1 then
          some (0 : Int32)
        else
          some (1 : Int32)
    ) : Option (Int32)) fun x3 =>
  if x3 = 0 ∨ x3 = 1 then
    some x3
  else none
/-- SteepleWords$Parish.judge -/
def FX2_judge (b : Nat) (p0 : Int32) (p1 : Int32) (σ : qH) : Option (qH) :=
  b1 (gC σ b 2) fun _ =>
  b1 ((
      if p1 = 0 then
        b1 (gR σ b 2 3) fun r2 =>
        b1 (aI σ r2 p0) fun v4 =>
        b1 (sI σ r2 p0 (v4 + (1 : Int32))) fun s6 =>
        b1 (gR s6 b 2 1) fun r8 =>
        b1 (gR s6 b 2 1) fun r10 =>
        b1 (aI s6 r10 p0) fun v12 =>
        b1 (FJ9_max_7cf53 (0 : Int32) (v12 - (1 : Int32)) s6) fun v15 =>
        b1 (sI s6 r8 p0 v15) fun s16 =>
        some s16
      else
        b1 (gR σ b 2 2) fun r18 =>
        b1 (aI σ r18 p0) fun v20 =>
        b1 (sI σ r18 p0 (v20 + (1 : Int32))) fun s22 =>
        b1 (gR s22 b 2 1) fun r24 =>
        b1 (gR s22 b 2 1) fun r26 =>
        b1 (aI s22 r26 p0) fun v28 =>
        b1 (FJ9_min_7cf53 (9 : Int32) (v28 + (1 : Int32)) s22) fun v31 =>
        b1 (sI s22 r24 p0 v31) fun s32 =>
        some s32
    ) : Option (qH)) fun s1 =>
  some s1
/-- SteepleWords$Parish.removeMeasuresOf -/
def FX2_removeMeasuresOf_L7 (a0 : Nat) (a1 : Int32) : Nat → Int32 → qH → Option (qH)
  | 0, _, _ => none
  | q + 1, y2, σ =>
    if y2 < 0 then
      some σ
    else
      b1 (FX2_isOf a0 y2 a1 σ) fun v4 =>
      b1 ((
          if v4 = 0 then
            some σ
          else
            b2 (FX2_removeMeasure a0 y2 σ) fun v7 s8 =>
            some s8
        ) : Option (qH)) fun s5 =>
      FX2_removeMeasuresOf_L7 a0 a1 q (y2 + (-1 : Int32)) s5
def FX2_removeMeasuresOf (b : Nat) (p0 : Int32) (σ : qH) : Option (qH) :=
  b1 (gC σ b 2) fun _ =>
  b1 (gI σ b 2 6) fun v1 =>
  b1 (FX2_removeMeasuresOf_L7 b p0 qfuel (v1 - (1 : Int32)) σ) fun s10 =>
  some s10
/-- SteepleWords$Parish.surveySteeple -/
def FX2_surveySteeple_L5 (a0 : Nat) (a1 : Int32) (a2 : Int32) : Nat → Int32 → Int32 → qH → Option (Int32 × qH)
  | 0, _, _, _ => none
  | q + 1, y3, y4, σ =>
    b1 (gI σ a0 2 6) fun v1 =>
    if v1 ≤ y4 then
      some (y3, σ)
    else
      b1 (FX2_isOf a0 y4 a1 σ) fun v4 =>
      b2 ((
          if v4 = 0 then
            some (y3, σ)
          else
            b1 (FX2_tells a0 y4 a2 σ) fun v8 =>
            b1 (FX2_number a0 y4 (1 : Int32) σ) fun v10 =>
            b1 (FX2_judge a0 v10 v8 σ) fun s12 =>
            b1 ((
                if v8 = 0 then
                  some (0 : Int32)
                else
                  some (1 : Int32)
              ) : Option (Int32)) fun x13 =>
            some ((y3 + x13), s12)
        ) : Option (Int32 × qH)) fun x5 s6 =>
      FX2_surveySteeple_L5 a0 a1 a2 q x5 (y4 + (1 : Int32)) s6
def FX2_surveySteeple (b : Nat) (p0 : Int32) (p1 : Int32) (σ : qH) : Option (Int32 × qH) :=
  b1 (gC σ b 2) fun _ =>
  b2 (FX2_surveySteeple_L5 b p0 p1 qfuel (0 : Int32) (0 : Int32) σ) fun x16 s17 =>
  b1 (FX2_removeMeasuresOf b p0 s17) fun s19 =>
  b1 (gR s19 b 2 4) fun r20 =>
  b1 (sI s19 r20 p0 p1) fun s22 =>
  b1 (gI s22 b 2 9) fun v24 =>
  b1 (gP s22 b 2 9 (.int (v24 + (1 : Int32)))) fun s26 =>
  some (x16, s26)
/-- SteepleWords$Parish.trySurvey -/
def FX2_trySurvey (b : Nat) (p0 : Int32) (p1 : Int32) (σ : qH) : Option (Int32 × qH) :=
  b1 (gC σ b 2) fun _ =>
  b1 (FX2_isSteeple p0 σ) fun v2 =>
  if v2 = 0 then
    some ((0 : Int32), σ)
  else
    b1 (FX2_isHeight p1 σ) fun v4 =>
    if v4 = 0 then
      some ((0 : Int32), σ)
    else
      b2 (FX2_surveySteeple b p0 p1 σ) fun v6 s7 =>
      some ((1 : Int32), s7)
/-- SteepleWords.doCommandOfText -/
def FX6_doCommandOfText (b : Nat) (σ : qH) : Option (Int32 × qH) :=
  b1 (gC σ b 4) fun _ =>
  b1 (gR σ b 4 5) fun r1 =>
  b1 (FX5_number r1 (0 : Int32) σ) fun v4 =>
  b1 (gR σ b 4 5) fun r5 =>
  b1 (FX5_number r5 (1 : Int32) σ) fun v8 =>
  b1 (gR σ b 4 5) fun r9 =>
  b1 (FX5_command r9 σ) fun v12 =>
  if v12 = (100 : Int32) then
    b1 (gR σ b 4 0) fun r13 =>
    b2 (FX2_tryDrop r13 v4 σ) fun v16 s17 =>
    if v16 = 0 ∨ v16 = 1 then
      some (v16, s17)
    else none
  else
  if v12 = (111 : Int32) then
    b1 (gR σ b 4 0) fun r19 =>
    b1 (gR σ b 4 5) fun r21 =>
    b1 (FX5_number r21 (2 : Int32) σ) fun v24 =>
    b1 (gR σ b 4 5) fun r25 =>
    b1 (FX5_number r25 (3 : Int32) σ) fun v28 =>
    b1 (gR σ b 4 5) fun r29 =>
    b1 (FX5_number r29 (4 : Int32) σ) fun v32 =>
    b1 (gR σ b 4 5) fun r33 =>
    b1 (FX5_number r33 (5 : Int32) σ) fun v36 =>
    b2 (FX2_tryMeasure r19 v4 v8 (1 : Int32) v24 v28 v32 v36 σ) fun v38 s39 =>
    if v38 = 0 ∨ v38 = 1 then
      some (v38, s39)
    else none
  else
  if v12 = (113 : Int32) then
    b1 (gR σ b 4 0) fun r41 =>
    b2 (FX2_passEvening r41 σ) fun v44 s45 =>
    some ((1 : Int32), s45)
  else
  if v12 = (115 : Int32) then
    b1 (gR σ b 4 0) fun r47 =>
    b1 (gR σ b 4 5) fun r49 =>
    b1 (FX5_number r49 (2 : Int32) σ) fun v52 =>
    b1 (gR σ b 4 5) fun r53 =>
    b1 (FX5_number r53 (3 : Int32) σ) fun v56 =>
    b1 (gR σ b 4 5) fun r57 =>
    b1 (FX5_number r57 (4 : Int32) σ) fun v60 =>
    b1 (gR σ b 4 5) fun r61 =>
    b1 (FX5_number r61 (5 : Int32) σ) fun v64 =>
    b2 (FX2_tryMeasure r47 v4 v8 (0 : Int32) v52 v56 v60 v64 σ) fun v66 s67 =>
    if v66 = 0 ∨ v66 = 1 then
      some (v66, s67)
    else none
  else
  if v12 = (116 : Int32) then
    b1 (gR σ b 4 0) fun r69 =>
    b2 (FX2_tryTrust r69 v4 v8 σ) fun v72 s73 =>
    if v72 = 0 ∨ v72 = 1 then
      some (v72, s73)
    else none
  else
  if v12 = (118 : Int32) then
    b1 (gR σ b 4 0) fun r75 =>
    b2 (FX2_trySurvey r75 v4 v8 σ) fun v78 s79 =>
    if v78 = 0 ∨ v78 = 1 then
      some (v78, s79)
    else none
  else
  if v12 = (119 : Int32) then
    b1 (gR σ b 4 0) fun r81 =>
    b1 (gR σ b 4 5) fun r83 =>
    b1 (FX5_number r83 (2 : Int32) σ) fun v86 =>
    b1 (gR σ b 4 5) fun r87 =>
    b1 (FX5_number r87 (3 : Int32) σ) fun v90 =>
    b2 (FX2_tryMeasure r81 v4 v8 (2 : Int32) v86 v90 (0 : Int32) (0 : Int32) σ) fun v92 s93 =>
    if v92 = 0 ∨ v92 = 1 then
      some (v92, s93)
    else none
  else
  some ((0 : Int32), σ)
/-- SteepleWords.load -/
def FX6_load_L37 (tst : Nat → Nat) (a0 : Nat) : Nat → Int32 → qH → Option (qH)
  | 0, _, _ => none
  | q + 1, y1, σ =>
    b1 (gR σ a0 4 3) fun r14 =>
    b1 (aL σ r14) fun v16 =>
    if v16 ≤ y1 then
      some σ
    else
      b1 (gR σ a0 4 3) fun r18 =>
      b1 (sZ σ r18 y1 (0 : Int32)) fun s20 =>
      FX6_load_L37 tst a0 q (y1 + (1 : Int32)) s20
def FX6_load_L71 (tst : Nat → Nat) (a0 : Nat) : Nat → Int32 → Int32 → qH → Option (Int32 × qH)
  | 0, _, _, _ => none
  | q + 1, y1, y2, σ =>
    if (120 : Int32) ≤ y2 then
      some (y1, σ)
    else
      b1 (gR σ a0 4 5) fun r28 =>
      b2 (FX5_readCommand tst r28 σ) fun v31 s32 =>
      if v31 = 0 then
        some (y1, s32)
      else
        b2 (FX6_doCommandOfText a0 s32) fun v34 s35 =>
        b1 ((
            if v34 = 0 then
              some (y1 + (1 : Int32))
            else
              some y1
          ) : Option (Int32)) fun x36 =>
        FX6_load_L71 tst a0 q x36 (y2 + (1 : Int32)) s35
def FX6_load (tst : Nat → Nat) (b : Nat) (σ : qH) : Option ((Int32 × qH) ⊕ (String × qH)) :=
  b1 (gC σ b 4) fun _ =>
  b1 (gR σ b 4 5) fun r1 =>
  b2 (FX5_findError tst r1 σ) fun v4 s5 =>
  if v4 = (-1 : Int32) then
    b1 (gR s5 b 4 0) fun r6 =>
    b1 (FX2_makeNew r6 s5) fun s9 =>
    b1 (gR s9 b 4 4) fun r10 =>
    b1 (FX1_forget r10 s9) fun s13 =>
    b1 (FX6_load_L37 tst b qfuel (0 : Int32) s13) fun s22 =>
    b1 (gR s22 b 4 5) fun r23 =>
    b2 (FX5_readHead r23 s22) fun v26 s27 =>
    b2 (FX6_load_L71 tst b qfuel (0 : Int32) (0 : Int32) s27) fun x38 s39 =>
    some (.inl (x38, s39))
  else
    some (.inr ("java/lang/IllegalStateException", s5))
/-- SteepleWords$Parish.count -/
def FX2_count (b : Nat) (σ : qH) : Option (Int32) :=
  b1 (gC σ b 2) fun _ =>
  b1 (gI σ b 2 6) fun v1 =>
  some v1
/-- SteepleWords$Parish.came -/
def FX2_came (b : Nat) (σ : qH) : Option (Int32) :=
  b1 (gC σ b 2) fun _ =>
  b1 (gI σ b 2 7) fun v1 =>
  some v1
/-- SteepleWords$Parish.evenings -/
def FX2_evenings (b : Nat) (σ : qH) : Option (Int32) :=
  b1 (gC σ b 2) fun _ =>
  b1 (gI σ b 2 8) fun v1 =>
  some v1
/-- SteepleWords$Parish.surveys -/
def FX2_surveys (b : Nat) (σ : qH) : Option (Int32) :=
  b1 (gC σ b 2) fun _ =>
  b1 (gI σ b 2 9) fun v1 =>
  some v1
/-- SteepleWords$Parish.quarrel -/
def FX2_quarrel (b : Nat) (p0 : Int32) (p1 : Int32) (σ : qH) : Option (Int32) :=
  b1 (gC σ b 2) fun _ =>
  b1 (FX2_number b p0 (1 : Int32) σ) fun v2 =>
  b1 (FX2_number b p1 (1 : Int32) σ) fun v4 =>
  b1 ((
      if v2 = v4 then
        some (0 : Int32)
      else
        b1 (FX2_feetApart b p0 p1 σ) fun v7 =>
        if v7 ≤ 0 then
          some (0 : Int32)
        else
          some (1 : Int32)
    ) : Option (Int32)) fun x5 =>
  if x5 = 0 ∨ x5 = 1 then
    some x5
  else none
/-- SteepleWords$Parish.pairsThatQuarrel -/
def FX2_pairsThatQuarrel_L16 (a0 : Nat) (a2 : Int32) (σ : qH) : Nat → Int32 → Int32 → Option (Int32)
  | 0, _, _ => none
  | q + 1, y1, y3 =>
    b1 (gI σ a0 2 6) fun v3 =>
    if v3 ≤ y3 then
      some y1
    else
      b1 (FX2_quarrel a0 a2 y3 σ) fun v6 =>
      b1 ((
          if v6 = 0 then
            some (0 : Int32)
          else
            some (1 : Int32)
        ) : Option (Int32)) fun x7 =>
      FX2_pairsThatQuarrel_L16 a0 a2 σ q (y1 + x7) (y3 + (1 : Int32))
def FX2_pairsThatQuarrel_L4 (a0 : Nat) (σ : qH) : Nat → Int32 → Int32 → Option (Int32)
  | 0, _, _ => none
  | q + 1, y1, y2 =>
    b1 (gI σ a0 2 6) fun v1 =>
    if v1 ≤ y2 then
      some y1
    else
      b1 (FX2_pairsThatQuarrel_L16 a0 y2 σ qfuel y1 (y2 + (1 : Int32))) fun x9 =>
      FX2_pairsThatQuarrel_L4 a0 σ q x9 (y2 + (1 : Int32))
def FX2_pairsThatQuarrel (b : Nat) (σ : qH) : Option (Int32) :=
  b1 (gC σ b 2) fun _ =>
  b1 (FX2_pairsThatQuarrel_L4 b σ qfuel (0 : Int32) (0 : Int32)) fun x11 =>
  some x11
/-- SteepleWords$Parish.pairsThatMatter -/
def FX2_pairsThatMatter_L16 (a0 : Nat) (a2 : Int32) (σ : qH) : Nat → Int32 → Int32 → Option (Int32)
  | 0, _, _ => none
  | q + 1, y1, y3 =>
    b1 (gI σ a0 2 6) fun v3 =>
    if v3 ≤ y3 then
      some y1
    else
      b1 (FX2_matters a0 a2 y3 σ) fun v6 =>
      b1 ((
          if v6 = 0 then
            some (0 : Int32)
          else
            some (1 : Int32)
        ) : Option (Int32)) fun x7 =>
      FX2_pairsThatMatter_L16 a0 a2 σ q (y1 + x7) (y3 + (1 : Int32))
def FX2_pairsThatMatter_L4 (a0 : Nat) (σ : qH) : Nat → Int32 → Int32 → Option (Int32)
  | 0, _, _ => none
  | q + 1, y1, y2 =>
    b1 (gI σ a0 2 6) fun v1 =>
    if v1 ≤ y2 then
      some y1
    else
      b1 (FX2_pairsThatMatter_L16 a0 y2 σ qfuel y1 (y2 + (1 : Int32))) fun x9 =>
      FX2_pairsThatMatter_L4 a0 σ q x9 (y2 + (1 : Int32))
def FX2_pairsThatMatter (b : Nat) (σ : qH) : Option (Int32) :=
  b1 (gC σ b 2) fun _ =>
  b1 (FX2_pairsThatMatter_L4 b σ qfuel (0 : Int32) (0 : Int32)) fun x11 =>
  some x11
/-- SteepleWords$Parish.sum -/
def FX2_sum_L10 (a2 : Nat) (a3 : Int32) (σ : qH) : Nat → Int32 → Int32 → Option (Int32)
  | 0, _, _ => none
  | q + 1, y1, y4 =>
    if a3 ≤ y4 then
      some y1
    else
      b1 (aI σ a2 y4) fun v3 =>
      FX2_sum_L10 a2 a3 σ q (y1 + v3) (y4 + (1 : Int32))
def FX2_sum (p0 : Nat) (σ : qH) : Option (Int32) :=
  b1 (aL σ p0) fun v1 =>
  b1 (FX2_sum_L10 p0 v1 σ qfuel (0 : Int32) (0 : Int32)) fun x5 =>
  some x5
/-- SteepleWords$Parish.trustOfAll -/
def FX2_trustOfAll (b : Nat) (σ : qH) : Option (Int32) :=
  b1 (gC σ b 2) fun _ =>
  b1 (gR σ b 2 1) fun r1 =>
  b1 (FX2_sum r1 σ) fun v4 =>
  some v4
/-- SteepleWords$Parish.lost -/
def FX2_lost (b : Nat) (σ : qH) : Option (Int32) :=
  b1 (gC σ b 2) fun _ =>
  b1 (gI σ b 2 10) fun v1 =>
  some v1
/-- SteepleWords$Parish.rightOfAll -/
def FX2_rightOfAll (b : Nat) (σ : qH) : Option (Int32) :=
  b1 (gC σ b 2) fun _ =>
  b1 (gR σ b 2 2) fun r1 =>
  b1 (FX2_sum r1 σ) fun v4 =>
  some v4
/-- SteepleWords$Parish.wrongOfAll -/
def FX2_wrongOfAll (b : Nat) (σ : qH) : Option (Int32) :=
  b1 (gC σ b 2) fun _ =>
  b1 (gR σ b 2 3) fun r1 =>
  b1 (FX2_sum r1 σ) fun v4 =>
  some v4
/-- SteepleWords.about -/
def FX6_about (b : Nat) (p0 : Int32) (σ : qH) : Option ((Int32) ⊕ String) :=
  b1 (gC σ b 4) fun _ =>
  b1 ((
      if p0 < (0 : Int32) then
        some (0 : Int32)
      else
        if (9 : Int32) < p0 then
          some (0 : Int32)
        else
          some (1 : Int32)
    ) : Option (Int32)) fun x1 =>
  bx (FX6_need x1 σ) fun _ =>
  if p0 = (0 : Int32) then
    b1 (gR σ b 4 0) fun r4 =>
    b1 (FX2_count r4 σ) fun v7 =>
    some (.inl v7)
  else
  if p0 = (1 : Int32) then
    b1 (gR σ b 4 0) fun r9 =>
    b1 (FX2_came r9 σ) fun v12 =>
    some (.inl v12)
  else
  if p0 = (2 : Int32) then
    b1 (gR σ b 4 0) fun r14 =>
    b1 (FX2_evenings r14 σ) fun v17 =>
    some (.inl v17)
  else
  if p0 = (3 : Int32) then
    b1 (gR σ b 4 0) fun r19 =>
    b1 (FX2_surveys r19 σ) fun v22 =>
    some (.inl v22)
  else
  if p0 = (4 : Int32) then
    b1 (gR σ b 4 0) fun r24 =>
    b1 (FX2_pairsThatQuarrel r24 σ) fun v27 =>
    some (.inl v27)
  else
  if p0 = (5 : Int32) then
    b1 (gR σ b 4 0) fun r29 =>
    b1 (FX2_pairsThatMatter r29 σ) fun v32 =>
    some (.inl v32)
  else
  if p0 = (6 : Int32) then
    b1 (gR σ b 4 0) fun r34 =>
    b1 (FX2_trustOfAll r34 σ) fun v37 =>
    some (.inl v37)
  else
  if p0 = (7 : Int32) then
    b1 (gR σ b 4 0) fun r39 =>
    b1 (FX2_lost r39 σ) fun v42 =>
    some (.inl v42)
  else
  if p0 = (8 : Int32) then
    b1 (gR σ b 4 0) fun r44 =>
    b1 (FX2_rightOfAll r44 σ) fun v47 =>
    some (.inl v47)
  else
  b1 (gR σ b 4 0) fun r49 =>
  b1 (FX2_wrongOfAll r49 σ) fun v52 =>
  some (.inl v52)
/-- SteepleWords.needMeasure -/
def FX6_needMeasure (b : Nat) (p0 : Int32) (σ : qH) : Option ((Unit) ⊕ String) :=
  b1 (gC σ b 4) fun _ =>
  b1 (gR σ b 4 0) fun r1 =>
  b1 (FX2_hasMeasure r1 p0 σ) fun v4 =>
  if v4 = 0 then
    some (.inr "java/lang/IndexOutOfBoundsException")
  else
    some (.inl ())
/-- SteepleWords$Parish.quarrelsOfMeasure -/
def FX2_quarrelsOfMeasure_L4 (a0 : Nat) (a1 : Int32) (σ : qH) : Nat → Int32 → Int32 → Option (Int32)
  | 0, _, _ => none
  | q + 1, y2, y3 =>
    b1 (gI σ a0 2 6) fun v1 =>
    if v1 ≤ y3 then
      some y2
    else
      b1 (FX2_quarrel a0 a1 y3 σ) fun v4 =>
      b1 ((
          if v4 = 0 then
            some y2
          else
            some (y2 + (1 : Int32))
        ) : Option (Int32)) fun x5 =>
      FX2_quarrelsOfMeasure_L4 a0 a1 σ q x5 (y3 + (1 : Int32))
def FX2_quarrelsOfMeasure (b : Nat) (p0 : Int32) (σ : qH) : Option (Int32) :=
  b1 (gC σ b 2) fun _ =>
  b1 (FX2_quarrelsOfMeasure_L4 b p0 σ qfuel (0 : Int32) (0 : Int32)) fun x7 =>
  some x7
/-- SteepleWords.measureOf -/
def FX6_measureOf (b : Nat) (p0 : Int32) (p1 : Int32) (σ : qH) : Option ((Int32) ⊕ String) :=
  b1 (gC σ b 4) fun _ =>
  bx (FX6_needMeasure b p0 σ) fun _ =>
  b1 ((
      if p1 < (0 : Int32) then
        some (0 : Int32)
      else
        if (10 : Int32) < p1 then
          some (0 : Int32)
        else
          some (1 : Int32)
    ) : Option (Int32)) fun x3 =>
  bx (FX6_need x3 σ) fun _ =>
  if p1 = (9 : Int32) then
    b1 (gR σ b 4 0) fun r6 =>
    b1 (FX2_weight r6 p0 σ) fun v9 =>
    some (.inl v9)
  else
  if p1 = (10 : Int32) then
    b1 (gR σ b 4 0) fun r11 =>
    b1 (FX2_quarrelsOfMeasure r11 p0 σ) fun v14 =>
    some (.inl v14)
  else
  b1 (gR σ b 4 0) fun r16 =>
  b1 (FX2_number r16 p0 p1 σ) fun v19 =>
  some (.inl v19)
/-- SteepleWords.needTeller -/
def FX6_needTeller (p0 : Int32) (σ : qH) : Option ((Unit) ⊕ String) :=
  b1 (FX2_isTeller p0 σ) fun v2 =>
  if v2 = 0 then
    some (.inr "java/lang/IndexOutOfBoundsException")
  else
    some (.inl ())
/-- SteepleWords$Parish.trustOf -/
def FX2_trustOf (b : Nat) (p0 : Int32) (σ : qH) : Option (Int32) :=
  b1 (gC σ b 2) fun _ =>
  b1 (gR σ b 2 1) fun r1 =>
  b1 (aI σ r1 p0) fun v3 =>
  some v3
/-- SteepleWords$Parish.measuresOfTeller -/
def FX2_measuresOfTeller_L4 (a0 : Nat) (a1 : Int32) (σ : qH) : Nat → Int32 → Int32 → Option (Int32)
  | 0, _, _ => none
  | q + 1, y2, y3 =>
    b1 (gI σ a0 2 6) fun v1 =>
    if v1 ≤ y3 then
      some y2
    else
      b1 (FX2_number a0 y3 (1 : Int32) σ) fun v4 =>
      b1 ((
          if v4 = a1 then
            some (1 : Int32)
          else
            some (0 : Int32)
        ) : Option (Int32)) fun x5 =>
      FX2_measuresOfTeller_L4 a0 a1 σ q (y2 + x5) (y3 + (1 : Int32))
def FX2_measuresOfTeller (b : Nat) (p0 : Int32) (σ : qH) : Option (Int32) :=
  b1 (gC σ b 2) fun _ =>
  b1 (FX2_measuresOfTeller_L4 b p0 σ qfuel (0 : Int32) (0 : Int32)) fun x7 =>
  some x7
/-- SteepleWords$Parish.rightOf -/
def FX2_rightOf (b : Nat) (p0 : Int32) (σ : qH) : Option (Int32) :=
  b1 (gC σ b 2) fun _ =>
  b1 (gR σ b 2 2) fun r1 =>
  b1 (aI σ r1 p0) fun v3 =>
  some v3
/-- SteepleWords$Parish.wrongOf -/
def FX2_wrongOf (b : Nat) (p0 : Int32) (σ : qH) : Option (Int32) :=
  b1 (gC σ b 2) fun _ =>
  b1 (gR σ b 2 3) fun r1 =>
  b1 (aI σ r1 p0) fun v3 =>
  some v3
/-- SteepleWords$Parish.quarrelsOfTeller -/
def FX2_quarrelsOfTeller_L4 (a0 : Nat) (a1 : Int32) (σ : qH) : Nat → Int32 → Int32 → Option (Int32)
  | 0, _, _ => none
  | q + 1, y2, y3 =>
    b1 (gI σ a0 2 6) fun v1 =>
    if v1 ≤ y3 then
      some y2
    else
      b1 (FX2_number a0 y3 (1 : Int32) σ) fun v4 =>
      b1 ((
          if v4 = a1 then
            b1 (FX2_quarrelsOfMeasure a0 y3 σ) fun v7 =>
            some v7
          else
            some (0 : Int32)
        ) : Option (Int32)) fun x5 =>
      FX2_quarrelsOfTeller_L4 a0 a1 σ q (y2 + x5) (y3 + (1 : Int32))
def FX2_quarrelsOfTeller (b : Nat) (p0 : Int32) (σ : qH) : Option (Int32) :=
  b1 (gC σ b 2) fun _ =>
  b1 (FX2_quarrelsOfTeller_L4 b p0 σ qfuel (0 : Int32) (0 : Int32)) fun x9 =>
  some x9
/-- SteepleWords.tellerOf -/
def FX6_tellerOf (b : Nat) (p0 : Int32) (p1 : Int32) (σ : qH) : Option ((Int32) ⊕ String) :=
  b1 (gC σ b 4) fun _ =>
  bx (FX6_needTeller p0 σ) fun _ =>
  b1 ((
      if p1 < (0 : Int32) then
        some (0 : Int32)
      else
        if (4 : Int32) < p1 then
          some (0 : Int32)
        else
          some (1 : Int32)
    ) : Option (Int32)) fun x3 =>
  bx (FX6_need x3 σ) fun _ =>
  if p1 = (0 : Int32) then
    b1 (gR σ b 4 0) fun r6 =>
    b1 (FX2_trustOf r6 p0 σ) fun v9 =>
    some (.inl v9)
  else
  if p1 = (1 : Int32) then
    b1 (gR σ b 4 0) fun r11 =>
    b1 (FX2_measuresOfTeller r11 p0 σ) fun v14 =>
    some (.inl v14)
  else
  if p1 = (2 : Int32) then
    b1 (gR σ b 4 0) fun r16 =>
    b1 (FX2_rightOf r16 p0 σ) fun v19 =>
    some (.inl v19)
  else
  if p1 = (3 : Int32) then
    b1 (gR σ b 4 0) fun r21 =>
    b1 (FX2_wrongOf r21 p0 σ) fun v24 =>
    some (.inl v24)
  else
  b1 (gR σ b 4 0) fun r26 =>
  b1 (FX2_quarrelsOfTeller r26 p0 σ) fun v29 =>
  some (.inl v29)
/-- SteepleWords.needSteeple -/
def FX6_needSteeple (p0 : Int32) (σ : qH) : Option ((Unit) ⊕ String) :=
  b1 (FX2_isSteeple p0 σ) fun v2 =>
  if v2 = 0 then
    some (.inr "java/lang/IndexOutOfBoundsException")
  else
    some (.inl ())
/-- SteepleWords$Parish.measuresOfSteeple -/
def FX2_measuresOfSteeple_L4 (a0 : Nat) (a1 : Int32) (σ : qH) : Nat → Int32 → Int32 → Option (Int32)
  | 0, _, _ => none
  | q + 1, y2, y3 =>
    b1 (gI σ a0 2 6) fun v1 =>
    if v1 ≤ y3 then
      some y2
    else
      b1 (FX2_isOf a0 y3 a1 σ) fun v4 =>
      b1 ((
          if v4 = 0 then
            some (0 : Int32)
          else
            some (1 : Int32)
        ) : Option (Int32)) fun x5 =>
      FX2_measuresOfSteeple_L4 a0 a1 σ q (y2 + x5) (y3 + (1 : Int32))
def FX2_measuresOfSteeple (b : Nat) (p0 : Int32) (σ : qH) : Option (Int32) :=
  b1 (gC σ b 2) fun _ =>
  b1 (FX2_measuresOfSteeple_L4 b p0 σ qfuel (0 : Int32) (0 : Int32)) fun x7 =>
  some x7
/-- SteepleWords$Parish.heightSurveyed -/
def FX2_heightSurveyed (b : Nat) (p0 : Int32) (σ : qH) : Option (Int32) :=
  b1 (gC σ b 2) fun _ =>
  b1 (gR σ b 2 4) fun r1 =>
  b1 (aI σ r1 p0) fun v3 =>
  some v3
/-- SteepleWords$Parish.weightOfSteeple -/
def FX2_weightOfSteeple_L4 (a0 : Nat) (a1 : Int32) (σ : qH) : Nat → Int32 → Int32 → Option (Int32)
  | 0, _, _ => none
  | q + 1, y2, y3 =>
    b1 (gI σ a0 2 6) fun v1 =>
    if v1 ≤ y3 then
      some y2
    else
      b1 (FX2_isOf a0 y3 a1 σ) fun v4 =>
      b1 ((
          if v4 = 0 then
            some (0 : Int32)
          else
            b1 (FX2_weight a0 y3 σ) fun v7 =>
            some v7
        ) : Option (Int32)) fun x5 =>
      FX2_weightOfSteeple_L4 a0 a1 σ q (y2 + x5) (y3 + (1 : Int32))
def FX2_weightOfSteeple (b : Nat) (p0 : Int32) (σ : qH) : Option (Int32) :=
  b1 (gC σ b 2) fun _ =>
  b1 (FX2_weightOfSteeple_L4 b p0 σ qfuel (0 : Int32) (0 : Int32)) fun x9 =>
  some x9
/-- SteepleWords.steepleOf -/
def FX6_steepleOf (b : Nat) (p0 : Int32) (p1 : Int32) (σ : qH) : Option ((Int32) ⊕ String) :=
  b1 (gC σ b 4) fun _ =>
  bx (FX6_needSteeple p0 σ) fun _ =>
  b1 ((
      if p1 < (0 : Int32) then
        some (0 : Int32)
      else
        if (2 : Int32) < p1 then
          some (0 : Int32)
        else
          some (1 : Int32)
    ) : Option (Int32)) fun x3 =>
  bx (FX6_need x3 σ) fun _ =>
  if p1 = (0 : Int32) then
    b1 (gR σ b 4 0) fun r6 =>
    b1 (FX2_measuresOfSteeple r6 p0 σ) fun v9 =>
    some (.inl v9)
  else
  if p1 = (1 : Int32) then
    b1 (gR σ b 4 0) fun r11 =>
    b1 (FX2_heightSurveyed r11 p0 σ) fun v14 =>
    some (.inl v14)
  else
  b1 (gR σ b 4 0) fun r16 =>
  b1 (FX2_weightOfSteeple r16 p0 σ) fun v19 =>
  some (.inl v19)
/-- SteepleWords$Parish.voteOf -/
def FX2_voteOf_L6 (a0 : Nat) (a1 : Int32) (a2 : Int32) (a3 : Int32) (σ : qH) : Nat → Int32 → Int32 → Option (Int32)
  | 0, _, _ => none
  | q + 1, y4, y5 =>
    b1 (gI σ a0 2 6) fun v1 =>
    if v1 ≤ y5 then
      some y4
    else
      b1 ((
          if y5 = a3 then
            some (0 : Int32)
          else
            b1 (FX2_isOf a0 y5 a1 σ) fun v5 =>
            if v5 = 0 then
              some (0 : Int32)
            else
              b1 (FX2_tells a0 y5 a2 σ) fun v7 =>
              if v7 = 0 then
                some (0 : Int32)
              else
                b1 (FX2_weight a0 y5 σ) fun v9 =>
                some v9
        ) : Option (Int32)) fun x3 =>
      FX2_voteOf_L6 a0 a1 a2 a3 σ q (y4 + x3) (y5 + (1 : Int32))
def FX2_voteOf (b : Nat) (p0 : Int32) (p1 : Int32) (p2 : Int32) (σ : qH) : Option (Int32) :=
  b1 (gC σ b 2) fun _ =>
  b1 (FX2_voteOf_L6 b p0 p1 p2 σ qfuel (0 : Int32) (0 : Int32)) fun x11 =>
  some x11
/-- SteepleWords.vote -/
def FX6_vote (b : Nat) (p0 : Int32) (p1 : Int32) (σ : qH) : Option ((Int32) ⊕ String) :=
  b1 (gC σ b 4) fun _ =>
  bx (FX6_needSteeple p0 σ) fun _ =>
  b1 (FX2_isHeight p1 σ) fun v4 =>
  bx (FX6_need v4 σ) fun _ =>
  b1 (gR σ b 4 0) fun r7 =>
  b1 (FX2_voteOf r7 p0 p1 (-1 : Int32) σ) fun v10 =>
  some (.inl v10)
/-- SteepleWords$Ballot.noteChanges -/
def FX0_noteChanges_L10 (a0 : Nat) (a1 : Nat) (a2 : Int32) : Nat → Int32 → qH → Option (qH)
  | 0, _, _ => none
  | q + 1, y3, σ =>
    b1 (FX2_count a1 σ) fun v6 =>
    if v6 ≤ y3 then
      some σ
    else
      b1 (FX2_isOf a1 y3 a2 σ) fun v8 =>
      b1 ((
          if v8 = 0 then
            some σ
          else
            b1 (gR σ a0 0 0) fun r10 =>
            b1 (FX2_number a1 y3 (7 : Int32) σ) fun v13 =>
            b1 (aI σ r10 v13) fun v14 =>
            b1 (FX2_weight a1 y3 σ) fun v17 =>
            b1 (sI σ r10 v13 (v14 + v17)) fun s18 =>
            b1 (gR s18 a0 0 0) fun r20 =>
            b1 (FX2_number a1 y3 (8 : Int32) s18) fun v23 =>
            b1 (aI s18 r20 (v23 + (1 : Int32))) fun v24 =>
            b1 (FX2_weight a1 y3 s18) fun v27 =>
            b1 (sI s18 r20 (v23 + (1 : Int32)) (v24 - v27)) fun s28 =>
            some s28
        ) : Option (qH)) fun s9 =>
      FX0_noteChanges_L10 a0 a1 a2 q (y3 + (1 : Int32)) s9
def FX0_noteChanges (b : Nat) (p0 : Nat) (p1 : Int32) (σ : qH) : Option (qH) :=
  b1 (gC σ b 0) fun _ =>
  b1 (gR σ b 0 0) fun r1 =>
  b1 (FJ7_fill_53178 r1 (0 : Int32) σ) fun s4 =>
  b1 (FX0_noteChanges_L10 b p0 p1 qfuel (0 : Int32) s4) fun s31 =>
  some s31
/-- SteepleWords$Ballot.countByHeights -/
def FX0_countByHeights_L16 (a0 : Nat) : Nat → Int32 → Int32 → qH → Option (qH)
  | 0, _, _, _ => none
  | q + 1, y3, y4, σ =>
    if (999 : Int32) < y4 then
      some σ
    else
      b1 (gR σ a0 0 0) fun r5 =>
      b1 (aI σ r5 y4) fun v7 =>
      b1 (gI σ a0 0 3) fun v9 =>
      b1 ((
          if (y3 + v7) ≤ v9 then
            b1 (gI σ a0 0 3) fun v12 =>
            if (y3 + v7) = v12 then
              b1 (gI σ a0 0 2) fun v14 =>
              if v14 = (y4 - (1 : Int32)) then
                b1 (gP σ a0 0 2 (.int y4)) fun s16 =>
                some s16
              else
                some σ
            else
              some σ
          else
            b1 (gP σ a0 0 3 (.int (y3 + v7))) fun s18 =>
            b1 (gP s18 a0 0 1 (.int y4)) fun s20 =>
            b1 (gP s20 a0 0 2 (.int y4)) fun s22 =>
            some s22
        ) : Option (qH)) fun s11 =>
      FX0_countByHeights_L16 a0 q (y3 + v7) (y4 + (1 : Int32)) s11
def FX0_countByHeights (b : Nat) (p0 : Nat) (p1 : Int32) (σ : qH) : Option (qH) :=
  b1 (gC σ b 0) fun _ =>
  b1 (FX0_noteChanges b p0 p1 σ) fun s2 =>
  b1 (gP s2 b 0 3 (.int (-1 : Int32))) fun s3 =>
  b1 (FX0_countByHeights_L16 b qfuel (0 : Int32) (1 : Int32) s3) fun s25 =>
  some s25
/-- SteepleWords$Ballot.tryLowest -/
def FX0_tryLowest (b : Nat) (p0 : Int32) (p1 : Int32) (σ : qH) : Option (qH) :=
  b1 (gC σ b 0) fun _ =>
  b1 (gI σ b 0 3) fun v1 =>
  b1 ((
      if v1 < p1 then
        b1 (gP σ b 0 3 (.int p1)) fun s4 =>
        b1 (gP s4 b 0 1 (.int p0)) fun s6 =>
        some s6
      else
        b1 (gI σ b 0 3) fun v8 =>
        if p1 = v8 then
          b1 (gI σ b 0 1) fun v10 =>
          if v10 ≤ p0 then
            some σ
          else
            b1 (gP σ b 0 3 (.int p1)) fun s12 =>
            b1 (gP s12 b 0 1 (.int p0)) fun s14 =>
            some s14
        else
          some σ
    ) : Option (qH)) fun s3 =>
  some s3
/-- SteepleWords$Ballot.countByEnds -/
def FX0_countByEnds_L19 (a0 : Nat) (a1 : Nat) (a2 : Int32) (a3 : Int32) : Nat → Int32 → qH → Option (qH)
  | 0, _, _ => none
  | q + 1, y4, σ =>
    b1 (FX2_count a1 σ) fun v8 =>
    if v8 ≤ y4 then
      some σ
    else
      b1 ((
          if y4 = a3 then
            some σ
          else
            b1 (FX2_isOf a1 y4 a2 σ) fun v11 =>
            if v11 = 0 then
              some σ
            else
              b1 (FX2_number a1 y4 (7 : Int32) σ) fun v13 =>
              b1 (FX2_voteOf a1 a2 v13 a3 σ) fun v15 =>
              b1 (FX0_tryLowest a0 v13 v15 σ) fun s17 =>
              some s17
        ) : Option (qH)) fun s9 =>
      FX0_countByEnds_L19 a0 a1 a2 a3 q (y4 + (1 : Int32)) s9
def FX0_countByEnds_L84 (a0 : Nat) (a1 : Nat) (a2 : Int32) (a3 : Int32) : Nat → Int32 → qH → Option (qH)
  | 0, _, _ => none
  | q + 1, y4, σ =>
    b1 (FX2_count a1 σ) fun v23 =>
    if v23 ≤ y4 then
      some σ
    else
      b1 (FX2_number a1 y4 (8 : Int32) σ) fun v25 =>
      b1 ((
          if y4 = a3 then
            some σ
          else
            b1 (FX2_isOf a1 y4 a2 σ) fun v28 =>
            if v28 = 0 then
              some σ
            else
              b1 (gI σ a0 0 1) fun v29 =>
              if v25 < v29 then
                some σ
              else
                b1 (gI σ a0 0 2) fun v31 =>
                if v31 ≤ v25 then
                  some σ
                else
                  b1 (FX2_voteOf a1 a2 (v25 + (1 : Int32)) a3 σ) fun v34 =>
                  b1 (gI σ a0 0 3) fun v35 =>
                  if v35 ≤ v34 then
                    some σ
                  else
                    b1 (gP σ a0 0 2 (.int v25)) fun s37 =>
                    some s37
        ) : Option (qH)) fun s26 =>
      FX0_countByEnds_L84 a0 a1 a2 a3 q (y4 + (1 : Int32)) s26
def FX0_countByEnds (b : Nat) (p0 : Nat) (p1 : Int32) (p2 : Int32) (σ : qH) : Option (qH) :=
  b1 (gC σ b 0) fun _ =>
  b1 (gP σ b 0 1 (.int (1 : Int32))) fun s1 =>
  b1 (FX2_voteOf p0 p1 (1 : Int32) p2 s1) fun v4 =>
  b1 (gP s1 b 0 3 (.int v4)) fun s5 =>
  b1 (FX0_countByEnds_L19 b p0 p1 p2 qfuel (0 : Int32) s5) fun s19 =>
  b1 (gP s19 b 0 2 (.int (999 : Int32))) fun s20 =>
  b1 (FX0_countByEnds_L84 b p0 p1 p2 qfuel (0 : Int32) s20) fun s40 =>
  some s40
/-- SteepleWords$Ballot.told -/
def FX0_told (b : Nat) (p0 : Int32) (σ : qH) : Option (Int32) :=
  b1 (gC σ b 0) fun _ =>
  if p0 = (0 : Int32) then
    b1 (gI σ b 0 1) fun v1 =>
    some v1
  else
  if p0 = (1 : Int32) then
    b1 (gI σ b 0 2) fun v4 =>
    some v4
  else
  b1 (gI σ b 0 3) fun v7 =>
  some v7
/-- SteepleWords.best -/
def FX6_best (b : Nat) (p0 : Int32) (p1 : Int32) (p2 : Int32) (σ : qH) : Option ((Int32 × qH) ⊕ (String × qH)) :=
  b1 (gC σ b 4) fun _ =>
  bxw (FX6_needSteeple p0 σ) σ fun _ =>
  b1 ((
      if p1 < (0 : Int32) then
        some (0 : Int32)
      else
        if (2 : Int32) < p1 then
          some (0 : Int32)
        else
          if p2 < (0 : Int32) then
            some (0 : Int32)
          else
            if (1 : Int32) < p2 then
              some (0 : Int32)
            else
              some (1 : Int32)
    ) : Option (Int32)) fun x3 =>
  bxw (FX6_need x3 σ) σ fun _ =>
  b1 ((
      if p2 = 0 then
        b1 (gR σ b 4 6) fun r7 =>
        b1 (gR σ b 4 0) fun r9 =>
        b1 (FX0_countByHeights r7 r9 p0 σ) fun s12 =>
        some s12
      else
        b1 (gR σ b 4 6) fun r13 =>
        b1 (gR σ b 4 0) fun r15 =>
        b1 (FX0_countByEnds r13 r15 p0 (-1 : Int32) σ) fun s18 =>
        some s18
    ) : Option (qH)) fun s6 =>
  b1 (gR s6 b 4 6) fun r19 =>
  b1 (FX0_told r19 p1 s6) fun v22 =>
  some (.inl (v22, s6))
/-- SteepleWords$Parish.isSetting -/
def FX2_isSetting (p0 : Int32) (σ : qH) : Option (Int32) :=
  b1 ((
      if p0 < (0 : Int32) then
        some (0 : Int32)
      else
        if (2 : Int32) ≤ p0 then
          some (0 : Int32)
        else
          some (1 : Int32)
    ) : Option (Int32)) fun x1 =>
  if x1 = 0 ∨ x1 = 1 then
    some x1
  else none
/-- SteepleWords$Parish.settingOf -/
def FX2_settingOf (b : Nat) (p0 : Int32) (σ : qH) : Option (Int32) :=
  b1 (gC σ b 2) fun _ =>
  b1 (gR σ b 2 5) fun r1 =>
  b1 (aI σ r1 p0) fun v3 =>
  some v3
/-- SteepleWords.setting -/
def FX6_setting (b : Nat) (p0 : Int32) (σ : qH) : Option ((Int32) ⊕ String) :=
  b1 (gC σ b 4) fun _ =>
  b1 (FX2_isSetting p0 σ) fun v2 =>
  bx (FX6_need v2 σ) fun _ =>
  b1 (gR σ b 4 0) fun r5 =>
  b1 (FX2_settingOf r5 p0 σ) fun v8 =>
  some (.inl v8)
/-- SteepleWords$Parish.takeFrom -/
def FX2_takeFrom (b : Nat) (p0 : Nat) (σ : qH) : Option (qH) :=
  b1 (gC σ b 2) fun _ =>
  b1 (gR σ p0 2 0) fun r1 =>
  b1 (gR σ b 2 0) fun r3 =>
  b1 (gR σ b 2 0) fun r5 =>
  b1 (aL σ r5) fun v7 =>
  b1 (sC σ r1 (0 : Int32) r3 (0 : Int32) v7) fun s9 =>
  b1 (gR s9 p0 2 1) fun r11 =>
  b1 (gR s9 b 2 1) fun r13 =>
  b1 (gR s9 b 2 1) fun r15 =>
  b1 (aL s9 r15) fun v17 =>
  b1 (sC s9 r11 (0 : Int32) r13 (0 : Int32) v17) fun s19 =>
  b1 (gR s19 p0 2 2) fun r21 =>
  b1 (gR s19 b 2 2) fun r23 =>
  b1 (gR s19 b 2 2) fun r25 =>
  b1 (aL s19 r25) fun v27 =>
  b1 (sC s19 r21 (0 : Int32) r23 (0 : Int32) v27) fun s29 =>
  b1 (gR s29 p0 2 3) fun r31 =>
  b1 (gR s29 b 2 3) fun r33 =>
  b1 (gR s29 b 2 3) fun r35 =>
  b1 (aL s29 r35) fun v37 =>
  b1 (sC s29 r31 (0 : Int32) r33 (0 : Int32) v37) fun s39 =>
  b1 (gR s39 p0 2 4) fun r41 =>
  b1 (gR s39 b 2 4) fun r43 =>
  b1 (gR s39 b 2 4) fun r45 =>
  b1 (aL s39 r45) fun v47 =>
  b1 (sC s39 r41 (0 : Int32) r43 (0 : Int32) v47) fun s49 =>
  b1 (gR s49 p0 2 5) fun r51 =>
  b1 (gR s49 b 2 5) fun r53 =>
  b1 (gR s49 b 2 5) fun r55 =>
  b1 (aL s49 r55) fun v57 =>
  b1 (sC s49 r51 (0 : Int32) r53 (0 : Int32) v57) fun s59 =>
  b1 (gI s59 p0 2 6) fun v61 =>
  b1 (gP s59 b 2 6 (.int v61)) fun s63 =>
  b1 (gI s63 p0 2 7) fun v65 =>
  b1 (gP s63 b 2 7 (.int v65)) fun s67 =>
  b1 (gI s67 p0 2 8) fun v69 =>
  b1 (gP s67 b 2 8 (.int v69)) fun s71 =>
  b1 (gI s71 p0 2 9) fun v73 =>
  b1 (gP s71 b 2 9 (.int v73)) fun s75 =>
  b1 (gI s75 p0 2 10) fun v77 =>
  b1 (gP s75 b 2 10 (.int v77)) fun s79 =>
  some s79
/-- SteepleWords$History.remember -/
def FX1_remember (b : Nat) (p0 : Nat) (σ : qH) : Option (qH) :=
  b1 (gC σ b 1) fun _ =>
  b1 (gR σ b 1 0) fun r1 =>
  b1 (gI σ b 1 1) fun v3 =>
  b1 (aQ σ r1 v3) fun r5 =>
  b1 (FX2_takeFrom r5 p0 σ) fun s8 =>
  b1 (gI s8 b 1 1) fun v9 =>
  b1 ((
      if (14 : Int32) ≤ (v9 + (1 : Int32)) then
        some (0 : Int32)
      else
        b1 (gI s8 b 1 1) fun v12 =>
        some (v12 + (1 : Int32))
    ) : Option (Int32)) fun x11 =>
  b1 (gP s8 b 1 1 (.int x11)) fun s14 =>
  b1 (gI s14 b 1 2) fun v16 =>
  b1 (FJ9_min_7cf53 (14 : Int32) (v16 + (1 : Int32)) s14) fun v19 =>
  b1 (gP s14 b 1 2 (.int v19)) fun s20 =>
  some s20
/-- SteepleWords.measure -/
def FX6_measure (b : Nat) (p0 : Int32) (p1 : Int32) (p2 : Int32) (p3 : Int32) (p4 : Int32) (p5 : Int32) (p6 : Int32) (σ : qH) : Option ((Int32 × qH) ⊕ (String × qH)) :=
  b1 (gC σ b 4) fun _ =>
  bxw (FX6_needSteeple p0 σ) σ fun _ =>
  bxw (FX6_needTeller p1 σ) σ fun _ =>
  b1 (FX2_fits p2 p3 p4 p5 p6 σ) fun v6 =>
  bxw (FX6_need v6 σ) σ fun _ =>
  b1 (gR σ b 4 0) fun r9 =>
  b1 (FX2_isFull r9 σ) fun v12 =>
  if v12 = 0 then
    b1 (gR σ b 4 4) fun r13 =>
    b1 (gR σ b 4 0) fun r15 =>
    b1 (FX1_remember r13 r15 σ) fun s18 =>
    b1 (gR s18 b 4 0) fun r19 =>
    b2 (FX2_addMeasure r19 p0 p1 p2 p3 p4 p5 p6 s18) fun v22 s23 =>
    some (.inl (v22, s23))
  else
    some (.inr ("java/lang/IllegalStateException", σ))
/-- SteepleWords.drop -/
def FX6_drop (b : Nat) (p0 : Int32) (σ : qH) : Option ((Int32 × qH) ⊕ (String × qH)) :=
  b1 (gC σ b 4) fun _ =>
  bxw (FX6_needMeasure b p0 σ) σ fun _ =>
  b1 (gR σ b 4 4) fun r3 =>
  b1 (gR σ b 4 0) fun r5 =>
  b1 (FX1_remember r3 r5 σ) fun s8 =>
  b1 (gR s8 b 4 0) fun r9 =>
  b2 (FX2_removeMeasure r9 p0 s8) fun v12 s13 =>
  some (.inl (v12, s13))
/-- SteepleWords.trust -/
def FX6_trust (b : Nat) (p0 : Int32) (p1 : Int32) (σ : qH) : Option ((Int32 × qH) ⊕ (String × qH)) :=
  b1 (gC σ b 4) fun _ =>
  bxw (FX6_needTeller p0 σ) σ fun _ =>
  b1 (FX2_isTrust p1 σ) fun v4 =>
  bxw (FX6_need v4 σ) σ fun _ =>
  b1 (gR σ b 4 4) fun r7 =>
  b1 (gR σ b 4 0) fun r9 =>
  b1 (FX1_remember r7 r9 σ) fun s12 =>
  b1 (gR s12 b 4 0) fun r13 =>
  b2 (FX2_changeTrust r13 p0 p1 s12) fun v16 s17 =>
  some (.inl (v16, s17))
/-- SteepleWords.evening -/
def FX6_evening (b : Nat) (σ : qH) : Option (Int32 × qH) :=
  b1 (gC σ b 4) fun _ =>
  b1 (gR σ b 4 4) fun r1 =>
  b1 (gR σ b 4 0) fun r3 =>
  b1 (FX1_remember r1 r3 σ) fun s6 =>
  b1 (gR s6 b 4 0) fun r7 =>
  b2 (FX2_passEvening r7 s6) fun v10 s11 =>
  some (v10, s11)
/-- SteepleWords.survey -/
def FX6_survey (b : Nat) (p0 : Int32) (p1 : Int32) (σ : qH) : Option ((Int32 × qH) ⊕ (String × qH)) :=
  b1 (gC σ b 4) fun _ =>
  bxw (FX6_needSteeple p0 σ) σ fun _ =>
  b1 (FX2_isHeight p1 σ) fun v4 =>
  bxw (FX6_need v4 σ) σ fun _ =>
  b1 (gR σ b 4 4) fun r7 =>
  b1 (gR σ b 4 0) fun r9 =>
  b1 (FX1_remember r7 r9 σ) fun s12 =>
  b1 (gR s12 b 4 0) fun r13 =>
  b2 (FX2_surveySteeple r13 p0 p1 s12) fun v16 s17 =>
  some (.inl (v16, s17))
/-- SteepleWords$Parish.fitsSetting -/
def FX2_fitsSetting (p0 : Int32) (p1 : Int32) (σ : qH) : Option (Int32) :=
  b1 (FX2_isSetting p0 σ) fun v2 =>
  b1 ((
      if v2 = 0 then
        some (0 : Int32)
      else
        if p1 < (0 : Int32) then
          some (0 : Int32)
        else
          b1 ((
              if p0 = 0 then
                some (5 : Int32)
              else
                some (50 : Int32)
            ) : Option (Int32)) fun x4 =>
          if x4 < p1 then
            some (0 : Int32)
          else
            some (1 : Int32)
    ) : Option (Int32)) fun x3 =>
  if x3 = 0 ∨ x3 = 1 then
    some x3
  else none
/-- SteepleWords$Parish.changeSetting -/
def FX2_changeSetting (b : Nat) (p0 : Int32) (p1 : Int32) (σ : qH) : Option (Int32 × qH) :=
  b1 (gC σ b 2) fun _ =>
  b1 (gR σ b 2 5) fun r1 =>
  b1 (aI σ r1 p0) fun v3 =>
  b1 (gR σ b 2 5) fun r5 =>
  b1 (sI σ r5 p0 p1) fun s7 =>
  some (v3, s7)
/-- SteepleWords.set -/
def FX6_set (b : Nat) (p0 : Int32) (p1 : Int32) (σ : qH) : Option ((Int32 × qH) ⊕ (String × qH)) :=
  b1 (gC σ b 4) fun _ =>
  b1 (FX2_fitsSetting p0 p1 σ) fun v2 =>
  bxw (FX6_need v2 σ) σ fun _ =>
  b1 (gR σ b 4 4) fun r5 =>
  b1 (gR σ b 4 0) fun r7 =>
  b1 (FX1_remember r5 r7 σ) fun s10 =>
  b1 (gR s10 b 4 0) fun r11 =>
  b2 (FX2_changeSetting r11 p0 p1 s10) fun v14 s15 =>
  some (.inl (v14, s15))
/-- SteepleWords$History.isEmpty -/
def FX1_isEmpty (b : Nat) (σ : qH) : Option (Int32) :=
  b1 (gC σ b 1) fun _ =>
  b1 (gI σ b 1 2) fun v1 =>
  b1 ((
      if v1 = 0 then
        some (1 : Int32)
      else
        some (0 : Int32)
    ) : Option (Int32)) fun x3 =>
  if x3 = 0 ∨ x3 = 1 then
    some x3
  else none
/-- SteepleWords$History.takeBack -/
def FX1_takeBack (b : Nat) (p0 : Nat) (σ : qH) : Option (Int32 × qH) :=
  b1 (gC σ b 1) fun _ =>
  b1 (gI σ b 1 1) fun v1 =>
  b1 ((
      if v1 ≤ 0 then
        some (13 : Int32)
      else
        b1 (gI σ b 1 1) fun v4 =>
        some (v4 - (1 : Int32))
    ) : Option (Int32)) fun x3 =>
  b1 (gP σ b 1 1 (.int x3)) fun s6 =>
  b1 (gI s6 b 1 2) fun v8 =>
  b1 (gP s6 b 1 2 (.int (v8 - (1 : Int32)))) fun s10 =>
  b1 (gR s10 b 1 0) fun r12 =>
  b1 (gI s10 b 1 1) fun v14 =>
  b1 (aQ s10 r12 v14) fun r16 =>
  b1 (FX2_takeFrom p0 r16 s10) fun s19 =>
  b1 (gI s19 b 1 2) fun v20 =>
  some (v20, s19)
/-- SteepleWords.undo -/
def FX6_undo (b : Nat) (σ : qH) : Option ((Int32 × qH) ⊕ (String × qH)) :=
  b1 (gC σ b 4) fun _ =>
  b1 (gR σ b 4 4) fun r1 =>
  b1 (FX1_isEmpty r1 σ) fun v4 =>
  if v4 = 0 then
    b1 (gR σ b 4 4) fun r5 =>
    b1 (gR σ b 4 0) fun r7 =>
    b2 (FX1_takeBack r5 r7 σ) fun v10 s11 =>
    some (.inl (v10, s11))
  else
    some (.inr ("java/lang/IllegalStateException", σ))
/-- SteepleWords.apart -/
def FX6_apart (b : Nat) (p0 : Int32) (p1 : Int32) (σ : qH) : Option ((Int32) ⊕ String) :=
  b1 (gC σ b 4) fun _ =>
  bx (FX6_needMeasure b p0 σ) fun _ =>
  bx (FX6_needMeasure b p1 σ) fun _ =>
  b1 (gR σ b 4 0) fun r5 =>
  b1 (FX2_feetApart r5 p0 p1 σ) fun v8 =>
  some (.inl v8)
/-- SteepleWords$Ballot.lowest -/
def FX0_lowest (b : Nat) (σ : qH) : Option (Int32) :=
  b1 (gC σ b 0) fun _ =>
  b1 (gI σ b 0 1) fun v1 =>
  some v1
/-- SteepleWords$Parish.feetFrom -/
def FX2_feetFrom (b : Nat) (p0 : Int32) (p1 : Int32) (σ : qH) : Option (Int32) :=
  b1 (gC σ b 2) fun _ =>
  b1 (FX2_number b p0 (7 : Int32) σ) fun v2 =>
  b1 (FX2_number b p0 (8 : Int32) σ) fun v4 =>
  b1 (FJ9_max_7cf53 (v2 - p1) (p1 - v4) σ) fun v6 =>
  b1 (FJ9_max_7cf53 (0 : Int32) v6 σ) fun v8 =>
  some v8
/-- SteepleWords$Parish.isLouder -/
def FX2_isLouder (b : Nat) (p0 : Int32) (p1 : Int32) (p2 : Int32) (σ : qH) : Option (Int32) :=
  b1 (gC σ b 2) fun _ =>
  b1 (FX2_weight b p0 σ) fun v2 =>
  b1 (FX2_weight b p1 σ) fun v4 =>
  b1 ((
      if (v2 - v4) = 0 then
        b1 (FX2_feetFrom b p0 p2 σ) fun v7 =>
        b1 (FX2_feetFrom b p1 p2 σ) fun v9 =>
        if v7 ≤ v9 then
          some (0 : Int32)
        else
          some (1 : Int32)
      else
        if (v2 - v4) ≤ 0 then
          some (0 : Int32)
        else
          some (1 : Int32)
    ) : Option (Int32)) fun x5 =>
  if x5 = 0 ∨ x5 = 1 then
    some x5
  else none
/-- SteepleWords$Parish.loudestAgainst -/
def FX2_loudestAgainst_L5 (a0 : Nat) (a1 : Int32) (a2 : Int32) (σ : qH) : Nat → Int32 → Int32 → Option (Int32)
  | 0, _, _ => none
  | q + 1, y3, y4 =>
    b1 (gI σ a0 2 6) fun v1 =>
    if v1 ≤ y4 then
      some y3
    else
      b1 (FX2_isOf a0 y4 a1 σ) fun v4 =>
      b1 ((
          if v4 = 0 then
            some y3
          else
            b1 (FX2_tells a0 y4 a2 σ) fun v7 =>
            if v7 = 0 then
              if y3 = (-1 : Int32) then
                some y4
              else
                b1 (FX2_isLouder a0 y4 y3 a2 σ) fun v9 =>
                if v9 = 0 then
                  some y3
                else
                  some y4
            else
              some y3
        ) : Option (Int32)) fun x5 =>
      FX2_loudestAgainst_L5 a0 a1 a2 σ q x5 (y4 + (1 : Int32))
def FX2_loudestAgainst (b : Nat) (p0 : Int32) (p1 : Int32) (σ : qH) : Option (Int32) :=
  b1 (gC σ b 2) fun _ =>
  b1 (FX2_loudestAgainst_L5 b p0 p1 σ qfuel (-1 : Int32) (0 : Int32)) fun x11 =>
  some x11
/-- SteepleWords.against -/
def FX6_against (b : Nat) (p0 : Int32) (σ : qH) : Option ((Int32 × qH) ⊕ (String × qH)) :=
  b1 (gC σ b 4) fun _ =>
  bxw (FX6_needSteeple p0 σ) σ fun _ =>
  b1 (gR σ b 4 6) fun r3 =>
  b1 (gR σ b 4 0) fun r5 =>
  b1 (FX0_countByEnds r3 r5 p0 (-1 : Int32) σ) fun s8 =>
  b1 (gR s8 b 4 0) fun r9 =>
  b1 (gR s8 b 4 6) fun r11 =>
  b1 (FX0_lowest r11 s8) fun v14 =>
  b1 (FX2_loudestAgainst r9 p0 v14 s8) fun v16 =>
  some (.inl (v16, s8))
/-- SteepleWords.without -/
def FX6_without (b : Nat) (p0 : Int32) (p1 : Int32) (σ : qH) : Option ((Int32 × qH) ⊕ (String × qH)) :=
  b1 (gC σ b 4) fun _ =>
  bxw (FX6_needMeasure b p0 σ) σ fun _ =>
  b1 ((
      if p1 < (0 : Int32) then
        some (0 : Int32)
      else
        if (2 : Int32) < p1 then
          some (0 : Int32)
        else
          some (1 : Int32)
    ) : Option (Int32)) fun x3 =>
  bxw (FX6_need x3 σ) σ fun _ =>
  b1 (gR σ b 4 6) fun r6 =>
  b1 (gR σ b 4 0) fun r8 =>
  b1 (gR σ b 4 0) fun r10 =>
  b1 (FX2_number r10 p0 (0 : Int32) σ) fun v13 =>
  b1 (FX0_countByEnds r6 r8 v13 p0 σ) fun s15 =>
  b1 (gR s15 b 4 6) fun r16 =>
  b1 (FX0_told r16 p1 s15) fun v19 =>
  some (.inl (v19, s15))
/-- SteepleWords$Parish.tellsHeight -/
def FX2_tellsHeight_L3 (a0 : Nat) (a1 : Int32) (a2 : Int32) (a3 : Int32) (σ : qH) : Nat → Int32 → Option (Int32)
  | 0, _ => none
  | q + 1, y4 =>
    b1 (gI σ a0 2 6) fun v1 =>
    if v1 ≤ y4 then
      some (0 : Int32)
    else
      b1 (FX2_isOf a0 y4 a2 σ) fun v4 =>
      if v4 = 0 then
        FX2_tellsHeight_L3 a0 a1 a2 a3 σ q (y4 + (1 : Int32))
      else
        b1 (FX2_number a0 y4 (1 : Int32) σ) fun v6 =>
        if v6 = a1 then
          b1 (FX2_tells a0 y4 a3 σ) fun v8 =>
          if v8 = 0 then
            FX2_tellsHeight_L3 a0 a1 a2 a3 σ q (y4 + (1 : Int32))
          else
            some (1 : Int32)
        else
          FX2_tellsHeight_L3 a0 a1 a2 a3 σ q (y4 + (1 : Int32))
def FX2_tellsHeight (b : Nat) (p0 : Int32) (p1 : Int32) (p2 : Int32) (σ : qH) : Option (Int32) :=
  b1 (gC σ b 2) fun _ =>
  FX2_tellsHeight_L3 b p0 p1 p2 σ qfuel (0 : Int32)
/-- SteepleWords.swings -/
def FX6_swings_L21 (a0 : Nat) (a1 : Int32) (a2 : Int32) : Nat → Int32 → qH → Option ((Int32 × qH) ⊕ (String × qH))
  | 0, _, _ => none
  | q + 1, y3, σ =>
    if (9 : Int32) < y3 then
      some (.inl ((-1 : Int32), σ))
    else
      b1 (gR σ a0 4 1) fun r11 =>
      b2 (FX2_changeTrust r11 a1 y3 σ) fun v14 s15 =>
      b1 (gR s15 a0 4 6) fun r16 =>
      b1 (gR s15 a0 4 1) fun r18 =>
      b1 (FX0_countByEnds r16 r18 a2 (-1 : Int32) s15) fun s21 =>
      b1 (gR s21 a0 4 1) fun r22 =>
      b1 (gR s21 a0 4 6) fun r24 =>
      b1 (FX0_lowest r24 s21) fun v27 =>
      b1 (FX2_tellsHeight r22 a1 a2 v27 s21) fun v29 =>
      if v29 = 0 then
        FX6_swings_L21 a0 a1 a2 q (y3 + (1 : Int32)) s21
      else
        some (.inl (y3, s21))
def FX6_swings (b : Nat) (p0 : Int32) (p1 : Int32) (σ : qH) : Option ((Int32 × qH) ⊕ (String × qH)) :=
  b1 (gC σ b 4) fun _ =>
  bxw (FX6_needTeller p0 σ) σ fun _ =>
  bxw (FX6_needSteeple p1 σ) σ fun _ =>
  b1 (gR σ b 4 1) fun r5 =>
  b1 (gR σ b 4 0) fun r7 =>
  b1 (FX2_takeFrom r5 r7 σ) fun s10 =>
  FX6_swings_L21 b p0 p1 qfuel (0 : Int32) s10
/-- SteepleWords$Parish.isTruer -/
def FX2_isTruer (b : Nat) (p0 : Int32) (p1 : Int32) (σ : qH) : Option (Int32) :=
  b1 (gC σ b 2) fun _ =>
  b1 (gR σ b 2 2) fun r1 =>
  b1 (aI σ r1 p0) fun v3 =>
  b1 (gR σ b 2 3) fun r5 =>
  b1 (aI σ r5 p0) fun v7 =>
  b1 (gR σ b 2 2) fun r9 =>
  b1 (aI σ r9 p1) fun v11 =>
  b1 (gR σ b 2 3) fun r13 =>
  b1 (aI σ r13 p1) fun v15 =>
  b1 (gR σ b 2 2) fun r17 =>
  b1 (aI σ r17 p0) fun v19 =>
  b1 (gR σ b 2 2) fun r21 =>
  b1 (aI σ r21 p1) fun v23 =>
  b1 ((
      if ((v19 * (v11 + v15)) - (v23 * (v3 + v7))) = 0 then
        if (v3 + v7) ≤ (v11 + v15) then
          some (0 : Int32)
        else
          some (1 : Int32)
      else
        if ((v19 * (v11 + v15)) - (v23 * (v3 + v7))) ≤ 0 then
          some (0 : Int32)
        else
          some (1 : Int32)
    ) : Option (Int32)) fun x25 =>
  if x25 = 0 ∨ x25 = 1 then
    some x25
  else none
/-- SteepleWords$Parish.tellerMostlyRight -/
def FX2_tellerMostlyRight_L4 (a0 : Nat) (σ : qH) : Nat → Int32 → Int32 → Option (Int32)
  | 0, _, _ => none
  | q + 1, y1, y2 =>
    if (6 : Int32) ≤ y2 then
      some y1
    else
      b1 (gR σ a0 2 2) fun r1 =>
      b1 (aI σ r1 y2) fun v3 =>
      b1 (gR σ a0 2 3) fun r5 =>
      b1 (aI σ r5 y2) fun v7 =>
      b1 ((
          if (v3 + v7) ≤ 0 then
            some y1
          else
            if y1 = (-1 : Int32) then
              some y2
            else
              b1 (FX2_isTruer a0 y2 y1 σ) fun v11 =>
              if v11 = 0 then
                some y1
              else
                some y2
        ) : Option (Int32)) fun x9 =>
      FX2_tellerMostlyRight_L4 a0 σ q x9 (y2 + (1 : Int32))
def FX2_tellerMostlyRight (b : Nat) (σ : qH) : Option (Int32) :=
  b1 (gC σ b 2) fun _ =>
  b1 (FX2_tellerMostlyRight_L4 b σ qfuel (-1 : Int32) (0 : Int32)) fun x13 =>
  some x13
/-- SteepleWords.truest -/
def FX6_truest (b : Nat) (σ : qH) : Option (Int32) :=
  b1 (gC σ b 4) fun _ =>
  b1 (gR σ b 4 0) fun r1 =>
  b1 (FX2_tellerMostlyRight r1 σ) fun v4 =>
  some v4
/-- SteepleWords$Script.limit -/
def FX3_limit_L4 (a0 : Int32) (σ : qH) : Nat → Int64 → Int32 → Option (Int64)
  | 0, _, _ => none
  | q + 1, y1, y3 =>
    if a0 ≤ y3 then
      some y1
    else
      FX3_limit_L4 a0 σ q (y1 * (1000000 : Int64)) (y3 + (1 : Int32))
def FX3_limit (p0 : Int32) (σ : qH) : Option (Int64) :=
  b1 (FX3_limit_L4 p0 σ qfuel (1 : Int64) (0 : Int32)) fun x1 =>
  some x1
/-- SteepleWords$Script.group -/
def FX3_group_L5 (a2 : Int32) (σ : qH) : Nat → Int64 → Int32 → Option (Int64)
  | 0, _, _ => none
  | q + 1, y3, y5 =>
    if a2 ≤ y5 then
      some y3
    else
      FX3_group_L5 a2 σ q (y3 / (1000000 : Int64)) (y5 + (1 : Int32))
def FX3_group (p0 : Int64) (p1 : Int32) (σ : qH) : Option (Int32) :=
  b1 (FX3_group_L5 p1 σ qfuel p0 (0 : Int32)) fun x1 =>
  some ((lrm x1 (1000000 : Int64))).toInt32
/-- SteepleWords$Script.passEvenings -/
def FX3_passEvenings_L2 (a0 : Nat) (a1 : Int32) : Nat → Int32 → qH → Option (qH)
  | 0, _, _ => none
  | q + 1, y2, σ =>
    if a1 ≤ y2 then
      some σ
    else
      b2 (FX2_passEvening a0 σ) fun v2 s3 =>
      FX3_passEvenings_L2 a0 a1 q (y2 + (1 : Int32)) s3
def FX3_passEvenings (p0 : Nat) (p1 : Int32) (σ : qH) : Option (Int32 × qH) :=
  b1 (FX3_passEvenings_L2 p0 p1 qfuel (0 : Int32) σ) fun s4 =>
  some ((1 : Int32), s4)
/-- SteepleWords$Script.lowestIsAtMost -/
def FX3_lowestIsAtMost (p0 : Nat) (p1 : Nat) (p2 : Int32) (p3 : Int32) (σ : qH) : Option (Int32 × qH) :=
  b1 (FX2_isSteeple p2 σ) fun v2 =>
  if v2 = 0 then
    some ((0 : Int32), σ)
  else
    b1 (FX0_countByEnds p1 p0 p2 (-1 : Int32) σ) fun s4 =>
    b1 (FX0_lowest p1 s4) fun v6 =>
    b1 ((
        if p3 < v6 then
          some (0 : Int32)
        else
          some (1 : Int32)
      ) : Option (Int32)) fun x7 =>
    if x7 = 0 ∨ x7 = 1 then
      some (x7, s4)
    else none
/-- SteepleWords$Ballot.most -/
def FX0_most (b : Nat) (σ : qH) : Option (Int32) :=
  b1 (gC σ b 0) fun _ =>
  b1 (gI σ b 0 3) fun v1 =>
  some v1
/-- SteepleWords$Script.mostIsAtLeast -/
def FX3_mostIsAtLeast (p0 : Nat) (p1 : Nat) (p2 : Int32) (p3 : Int32) (σ : qH) : Option (Int32 × qH) :=
  b1 (FX2_isSteeple p2 σ) fun v2 =>
  if v2 = 0 then
    some ((0 : Int32), σ)
  else
    b1 (FX0_countByEnds p1 p0 p2 (-1 : Int32) σ) fun s4 =>
    b1 (FX0_most p1 s4) fun v6 =>
    b1 ((
        if v6 < p3 then
          some (0 : Int32)
        else
          some (1 : Int32)
      ) : Option (Int32)) fun x7 =>
    if x7 = 0 ∨ x7 = 1 then
      some (x7, s4)
    else none
/-- SteepleWords$Script.succeeds -/
def FX3_succeeds (p0 : Nat) (p1 : Nat) (p2 : Int32) (σ : qH) : Option (Int32 × qH) :=
  if (p2 / (100000 : Int32)) = (1 : Int32) then
    b2 (FX2_tryMeasure p0 (irm (p2 / (10000 : Int32)) (10 : Int32)) (irm (p2 / (1000 : Int32)) (10 : Int32)) (2 : Int32) (irm p2 (1000 : Int32)) (irm p2 (1000 : Int32)) (0 : Int32) (0 : Int32) σ) fun v2 s3 =>
    if v2 = 0 ∨ v2 = 1 then
      some (v2, s3)
    else none
  else
  if (p2 / (100000 : Int32)) = (2 : Int32) then
    b2 ((
        if (irm p2 (1000 : Int32)) = 0 then
          b2 (FX2_tryDrop p0 (irm (p2 / (1000 : Int32)) (100 : Int32)) σ) fun v8 s9 =>
          if v8 = 0 then
            some ((0 : Int32), s9)
          else
            some ((1 : Int32), s9)
        else
          some ((0 : Int32), σ)
      ) : Option (Int32 × qH)) fun x5 s6 =>
    if x5 = 0 ∨ x5 = 1 then
      some (x5, s6)
    else none
  else
  if (p2 / (100000 : Int32)) = (3 : Int32) then
    b2 ((
        if (irm (p2 / (10 : Int32)) (1000 : Int32)) = 0 then
          b2 (FX2_tryTrust p0 (irm (p2 / (10000 : Int32)) (10 : Int32)) (irm p2 (10 : Int32)) σ) fun v15 s16 =>
          if v15 = 0 then
            some ((0 : Int32), s16)
          else
            some ((1 : Int32), s16)
        else
          some ((0 : Int32), σ)
      ) : Option (Int32 × qH)) fun x12 s13 =>
    if x12 = 0 ∨ x12 = 1 then
      some (x12, s13)
    else none
  else
  if (p2 / (100000 : Int32)) = (4 : Int32) then
    b2 ((
        if (irm (p2 / (10 : Int32)) (10000 : Int32)) = 0 then
          b2 (FX3_passEvenings p0 (irm p2 (10 : Int32)) σ) fun v22 s23 =>
          if v22 = 0 then
            some ((0 : Int32), s23)
          else
            some ((1 : Int32), s23)
        else
          some ((0 : Int32), σ)
      ) : Option (Int32 × qH)) fun x19 s20 =>
    if x19 = 0 ∨ x19 = 1 then
      some (x19, s20)
    else none
  else
  if (p2 / (100000 : Int32)) = (5 : Int32) then
    b2 ((
        if (irm (p2 / (1000 : Int32)) (10 : Int32)) = 0 then
          b2 (FX2_trySurvey p0 (irm (p2 / (10000 : Int32)) (10 : Int32)) (irm p2 (1000 : Int32)) σ) fun v29 s30 =>
          if v29 = 0 then
            some ((0 : Int32), s30)
          else
            some ((1 : Int32), s30)
        else
          some ((0 : Int32), σ)
      ) : Option (Int32 × qH)) fun x26 s27 =>
    if x26 = 0 ∨ x26 = 1 then
      some (x26, s27)
    else none
  else
  if (p2 / (100000 : Int32)) = (6 : Int32) then
    b2 ((
        if (irm (p2 / (1000 : Int32)) (10 : Int32)) = 0 then
          b2 (FX3_lowestIsAtMost p0 p1 (irm (p2 / (10000 : Int32)) (10 : Int32)) (irm p2 (1000 : Int32)) σ) fun v36 s37 =>
          if v36 = 0 then
            some ((0 : Int32), s37)
          else
            some ((1 : Int32), s37)
        else
          some ((0 : Int32), σ)
      ) : Option (Int32 × qH)) fun x33 s34 =>
    if x33 = 0 ∨ x33 = 1 then
      some (x33, s34)
    else none
  else
  if (p2 / (100000 : Int32)) = (7 : Int32) then
    b2 ((
        if (irm p2 (100 : Int32)) = 0 then
          b2 (FX3_mostIsAtLeast p0 p1 (irm (p2 / (10000 : Int32)) (10 : Int32)) (irm (p2 / (100 : Int32)) (100 : Int32)) σ) fun v43 s44 =>
          if v43 = 0 then
            some ((0 : Int32), s44)
          else
            some ((1 : Int32), s44)
        else
          some ((0 : Int32), σ)
      ) : Option (Int32 × qH)) fun x40 s41 =>
    if x40 = 0 ∨ x40 = 1 then
      some (x40, s41)
    else none
  else
  if (p2 / (100000 : Int32)) = (8 : Int32) then
    b1 ((
        if (irm (p2 / (10 : Int32)) (1000 : Int32)) = 0 then
          b1 (FX2_isTeller (irm (p2 / (10000 : Int32)) (10 : Int32)) σ) fun v49 =>
          if v49 = 0 then
            some (0 : Int32)
          else
            b1 (FX2_trustOf p0 (irm (p2 / (10000 : Int32)) (10 : Int32)) σ) fun v51 =>
            if v51 < (irm p2 (10 : Int32)) then
              some (0 : Int32)
            else
              some (1 : Int32)
        else
          some (0 : Int32)
      ) : Option (Int32)) fun x47 =>
    if x47 = 0 ∨ x47 = 1 then
      some (x47, σ)
    else none
  else
  if (p2 / (100000 : Int32)) = (9 : Int32) then
    b1 ((
        if (irm (p2 / (100 : Int32)) (1000 : Int32)) = 0 then
          b1 (FX2_pairsThatQuarrel p0 σ) fun v56 =>
          if (irm p2 (100 : Int32)) < v56 then
            some (0 : Int32)
          else
            some (1 : Int32)
        else
          some (0 : Int32)
      ) : Option (Int32)) fun x54 =>
    if x54 = 0 ∨ x54 = 1 then
      some (x54, σ)
    else none
  else
  some ((0 : Int32), σ)
/-- SteepleWords.runScript -/
def FX6_runScript_L55 (a0 : Nat) (a1 : Int32) (a2 : Int64) : Nat → Int32 → qH → Option ((Int32 × qH) ⊕ (String × qH))
  | 0, _, _ => none
  | q + 1, y4, σ =>
    if a1 ≤ y4 then
      some (.inl ((-1 : Int32), σ))
    else
      b1 (gR σ a0 4 1) fun r15 =>
      b1 (gR σ a0 4 6) fun r17 =>
      b1 (FX3_group a2 ((a1 - (1 : Int32)) - y4) σ) fun v20 =>
      b2 (FX3_succeeds r15 r17 v20 σ) fun v22 s23 =>
      if v22 = 0 then
        some (.inl (y4, s23))
      else
        FX6_runScript_L55 a0 a1 a2 q (y4 + (1 : Int32)) s23
def FX6_runScript (b : Nat) (p0 : Int32) (p1 : Int64) (σ : qH) : Option ((Int32 × qH) ⊕ (String × qH)) :=
  b1 (gC σ b 4) fun _ =>
  b1 ((
      if p0 < (1 : Int32) then
        some (0 : Int32)
      else
        if (3 : Int32) < p0 then
          some (0 : Int32)
        else
          some (1 : Int32)
    ) : Option (Int32)) fun x1 =>
  bxw (FX6_need x1 σ) σ fun _ =>
  b1 ((
      if 0 < (lg_cmp (0 : Int64) p1) then
        some (0 : Int32)
      else
        b1 (FX3_limit p0 σ) fun v6 =>
        if 0 ≤ (lg_cmp p1 v6) then
          some (0 : Int32)
        else
          some (1 : Int32)
    ) : Option (Int32)) fun x4 =>
  bxw (FX6_need x4 σ) σ fun _ =>
  b1 (gR σ b 4 1) fun r9 =>
  b1 (gR σ b 4 0) fun r11 =>
  b1 (FX2_takeFrom r9 r11 σ) fun s14 =>
  FX6_runScript_L55 b p0 p1 qfuel (0 : Int32) s14
/-- SteepleWords$Simulation.tell -/
def FX4_tell (p0 : Nat) (p1 : Int32) (p2 : Int32) (σ : qH) : Option (qH) :=
  b1 ((
      if (3 : Int32) < p1 then
        if (5 : Int32) < p1 then
          b2 (FX2_tryMeasure p0 (irm p2 (3 : Int32)) (irm (p2 / (4 : Int32)) (6 : Int32)) (2 : Int32) ((1 : Int32) + (irm (p2 / (32 : Int32)) (900 : Int32))) (((1 : Int32) + (irm (p2 / (32 : Int32)) (900 : Int32))) + (irm (p2 / (256 : Int32)) (90 : Int32))) (0 : Int32) (0 : Int32) σ) fun v3 s4 =>
          some s4
        else
          b2 (FX2_tryMeasure p0 (irm p2 (3 : Int32)) (irm (p2 / (4 : Int32)) (6 : Int32)) (1 : Int32) ((1 : Int32) + (irm (p2 / (32 : Int32)) (9 : Int32))) ((1 : Int32) + (irm (p2 / (288 : Int32)) (60 : Int32))) ((1 : Int32) + (irm (p2 / (256 : Int32)) (400 : Int32))) (irm (p2 / (8 : Int32)) (21 : Int32)) σ) fun v6 s7 =>
          some s7
      else
        b2 (FX2_tryMeasure p0 (irm p2 (3 : Int32)) (irm (p2 / (4 : Int32)) (6 : Int32)) (0 : Int32) ((1 : Int32) + (irm (p2 / (32 : Int32)) (20 : Int32))) ((1 : Int32) + (irm (p2 / (640 : Int32)) (40 : Int32))) ((1 : Int32) + (irm (p2 / (256 : Int32)) (400 : Int32))) (irm (p2 / (8 : Int32)) (21 : Int32)) σ) fun v9 s10 =>
        some s10
    ) : Option (qH)) fun s1 =>
  some s1
/-- SteepleWords$Simulation.changeSetting -/
def FX4_changeSetting (p0 : Nat) (p1 : Int32) (σ : qH) : Option (qH) :=
  b1 ((
      if (irm (p1 / (8 : Int32)) (2 : Int32)) = 0 then
        b2 (FX2_changeSetting p0 (0 : Int32) (irm p1 (6 : Int32)) σ) fun v3 s4 =>
        some s4
      else
        b2 (FX2_changeSetting p0 (1 : Int32) (irm (p1 / (16 : Int32)) (51 : Int32)) σ) fun v6 s7 =>
        some s7
    ) : Option (qH)) fun s1 =>
  some s1
/-- SteepleWords$Simulation.turn -/
def FX4_turn (p0 : Nat) (p1 : Int32) (σ : qH) : Option (qH) :=
  b1 ((
      if (irm p1 (16 : Int32)) = (0 : Int32) ∨ (irm p1 (16 : Int32)) = (1 : Int32) ∨ (irm p1 (16 : Int32)) = (2 : Int32) ∨ (irm p1 (16 : Int32)) = (3 : Int32) ∨ (irm p1 (16 : Int32)) = (4 : Int32) ∨ (irm p1 (16 : Int32)) = (5 : Int32) ∨ (irm p1 (16 : Int32)) = (6 : Int32) ∨ (irm p1 (16 : Int32)) = (7 : Int32) ∨ (irm p1 (16 : Int32)) = (8 : Int32) then
        b1 (FX4_tell p0 (irm p1 (16 : Int32)) (p1 / (16 : Int32)) σ) fun s3 =>
        some s3
      else
      if (irm p1 (16 : Int32)) = (9 : Int32) then
        b2 (FX2_tryDrop p0 (irm (p1 / (16 : Int32)) (16 : Int32)) σ) fun v6 s7 =>
        some s7
      else
      if (irm p1 (16 : Int32)) = (10 : Int32) ∨ (irm p1 (16 : Int32)) = (11 : Int32) ∨ (irm p1 (16 : Int32)) = (12 : Int32) then
        b2 (FX2_passEvening p0 σ) fun v10 s11 =>
        some s11
      else
      if (irm p1 (16 : Int32)) = (13 : Int32) then
        b1 (FX4_changeSetting p0 (p1 / (16 : Int32)) σ) fun s14 =>
        some s14
      else
      b2 (FX2_trySurvey p0 (irm (p1 / (16 : Int32)) (3 : Int32)) ((1 : Int32) + (irm ((p1 / (16 : Int32)) / (32 : Int32)) (999 : Int32))) σ) fun v17 s18 =>
      some s18
    ) : Option (qH)) fun s1 =>
  some s1
/-- SteepleWords.simulate -/
def FX6_simulate_L36 (a0 : Nat) (a3 : Int32) : Nat → Int64 → Int32 → qH → Option (qH)
  | 0, _, _, _ => none
  | q + 1, y4, y6, σ =>
    if a3 ≤ y6 then
      some σ
    else
      b1 (gR σ a0 4 1) fun r10 =>
      b1 (FX4_turn r10 ((lus ((y4 * (6364136223846793005 : Int64)) + (1442695040888963407 : Int64)) (33 : Int32))).toInt32 σ) fun s13 =>
      FX6_simulate_L36 a0 a3 q ((y4 * (6364136223846793005 : Int64)) + (1442695040888963407 : Int64)) (y6 + (1 : Int32)) s13
def FX6_simulate (b : Nat) (p0 : Int64) (p1 : Int32) (σ : qH) : Option ((Int32 × qH) ⊕ (String × qH)) :=
  b1 (gC σ b 4) fun _ =>
  b1 ((
      if p1 < (1 : Int32) then
        some (0 : Int32)
      else
        if (60 : Int32) < p1 then
          some (0 : Int32)
        else
          some (1 : Int32)
    ) : Option (Int32)) fun x1 =>
  bxw (FX6_need x1 σ) σ fun _ =>
  b1 (gR σ b 4 1) fun r4 =>
  b1 (gR σ b 4 0) fun r6 =>
  b1 (FX2_takeFrom r4 r6 σ) fun s9 =>
  b1 (FX6_simulate_L36 b p1 qfuel p0 (0 : Int32) s9) fun s14 =>
  b1 (gR s14 b 4 1) fun r15 =>
  b1 (FX2_rightOfAll r15 s14) fun v18 =>
  b1 (gR s14 b 4 0) fun r19 =>
  b1 (FX2_rightOfAll r19 s14) fun v22 =>
  b1 (gR s14 b 4 1) fun r23 =>
  b1 (FX2_count r23 s14) fun v26 =>
  b1 (gR s14 b 4 1) fun r27 =>
  b1 (FX2_trustOfAll r27 s14) fun v30 =>
  some (.inl (((((10000 : Int32) * v26) + ((100 : Int32) * v30)) + (irm (v18 - v22) (100 : Int32))), s14))
/-- SteepleWords.needSlot -/
def FX6_needSlot (p0 : Int32) (σ : qH) : Option ((Unit) ⊕ String) :=
  if p0 < 0 then
    some (.inr "java/lang/IndexOutOfBoundsException")
  else
    if p0 < (2 : Int32) then
      some (.inl ())
    else
      some (.inr "java/lang/IndexOutOfBoundsException")
/-- SteepleWords.save -/
def FX6_save (b : Nat) (p0 : Int32) (σ : qH) : Option ((Int32 × qH) ⊕ (String × qH)) :=
  b1 (gC σ b 4) fun _ =>
  bxw (FX6_needSlot p0 σ) σ fun _ =>
  b1 (gR σ b 4 2) fun r3 =>
  b1 (aQ σ r3 p0) fun r5 =>
  b1 (gR σ b 4 0) fun r7 =>
  b1 (FX2_takeFrom r5 r7 σ) fun s10 =>
  b1 (gR s10 b 4 3) fun r11 =>
  b1 (sZ s10 r11 p0 (1 : Int32)) fun s13 =>
  b1 (gR s13 b 4 0) fun r15 =>
  b1 (FX2_count r15 s13) fun v18 =>
  some (.inl (v18, s13))
/-- SteepleWords.restore -/
def FX6_restore (b : Nat) (p0 : Int32) (σ : qH) : Option ((Int32 × qH) ⊕ (String × qH)) :=
  b1 (gC σ b 4) fun _ =>
  bxw (FX6_needSlot p0 σ) σ fun _ =>
  b1 (gR σ b 4 3) fun r3 =>
  b1 (aZ σ r3 p0) fun v5 =>
  if v5 = 0 then
    some (.inr ("java/lang/IllegalStateException", σ))
  else
    b1 (gR σ b 4 0) fun r7 =>
    b1 (gR σ b 4 2) fun r9 =>
    b1 (aQ σ r9 p0) fun r11 =>
    b1 (FX2_takeFrom r7 r11 σ) fun s14 =>
    b1 (gR s14 b 4 4) fun r15 =>
    b1 (FX1_forget r15 s14) fun s18 =>
    b1 (gR s18 b 4 0) fun r19 =>
    b1 (FX2_count r19 s18) fun v22 =>
    some (.inl (v22, s18))
/-- SteepleWordsModel.thrown -/
def FX7_thrown (b : Nat) (σ : qH) : Option (Int32) :=
  b1 (gC σ b 5) fun _ =>
  b1 (gI σ b 5 0) fun v1 =>
  some v1
/-- SteepleWordsModel.refused -/
def FX7_refused (b : Nat) (p0 : Int32) (σ : qH) : Option (Int32 × qH) :=
  b1 (gC σ b 5) fun _ =>
  b1 (gP σ b 5 0 (.int p0)) fun s1 =>
  b1 ((
      if p0 ≤ 0 then
        some (0 : Int32)
      else
        some (1 : Int32)
    ) : Option (Int32)) fun x3 =>
  if x3 = 0 ∨ x3 = 1 then
    some (x3, s1)
  else none
/-- SteepleWordsModel.in -/
def FX7_in (p0 : Int64) (p1 : Int64) (p2 : Int64) (σ : qH) : Option (Int32) :=
  b1 ((
      if (lg_cmp p0 p1) < 0 then
        some (0 : Int32)
      else
        if 0 < (lg_cmp p0 p2) then
          some (0 : Int32)
        else
          some (1 : Int32)
    ) : Option (Int32)) fun x1 =>
  if x1 = 0 ∨ x1 = 1 then
    some x1
  else none
/-- SteepleWordsModel.copyState -/
def FX7_copyState_L3 (a0 : Nat) (a1 : Int32) (a2 : Nat) (a3 : Int32) : Nat → Int32 → qH → Option (qH)
  | 0, _, _ => none
  | q + 1, y4, σ =>
    if (142 : Int32) ≤ y4 then
      some σ
    else
      b1 (aI σ a0 (a1 + y4)) fun v1 =>
      b1 (sI σ a2 (a3 + y4) v1) fun s3 =>
      FX7_copyState_L3 a0 a1 a2 a3 q (y4 + (1 : Int32)) s3
def FX7_copyState (p0 : Nat) (p1 : Int32) (p2 : Nat) (p3 : Int32) (σ : qH) : Option (qH) :=
  b1 (FX7_copyState_L3 p0 p1 p2 p3 qfuel (0 : Int32) σ) fun s5 =>
  some s5
/-- SteepleWordsModel.clear -/
def FX7_clear_L2 (a0 : Nat) : Nat → Int32 → qH → Option (qH)
  | 0, _, _ => none
  | q + 1, y1, σ =>
    if (142 : Int32) ≤ y1 then
      some σ
    else
      b1 ((
          if y1 < (9 : Int32) then
            if y1 < (27 : Int32) then
              some (0 : Int32)
            else
              if (30 : Int32) ≤ y1 then
                some (0 : Int32)
              else
                some (-1 : Int32)
          else
            if (15 : Int32) ≤ y1 then
              if y1 < (27 : Int32) then
                some (0 : Int32)
              else
                if (30 : Int32) ≤ y1 then
                  some (0 : Int32)
                else
                  some (-1 : Int32)
            else
              some (5 : Int32)
        ) : Option (Int32)) fun x1 =>
      b1 (sI σ a0 y1 x1) fun s2 =>
      FX7_clear_L2 a0 q (y1 + (1 : Int32)) s2
def FX7_clear (p0 : Nat) (σ : qH) : Option (qH) :=
  b1 (FX7_clear_L2 p0 qfuel (0 : Int32) σ) fun s5 =>
  b1 (sI s5 p0 (7 : Int32) (1 : Int32)) fun s6 =>
  b1 (sI s6 p0 (8 : Int32) (5 : Int32)) fun s8 =>
  some s8
/-- SteepleWordsModel.of -/
def FX7_of (p0 : Nat) (p1 : Int32) (p2 : Int32) (σ : qH) : Option (Int32) :=
  b1 (aI σ p0 (((30 : Int32) + ((7 : Int32) * p1)) + p2)) fun v1 =>
  some v1
/-- SteepleWordsModel.isMeasure -/
def FX7_isMeasure (p0 : Nat) (p1 : Int32) (σ : qH) : Option (Int32) :=
  b1 (aI σ p0 (0 : Int32)) fun v1 =>
  b1 (FX7_in (p1).toInt64 (0 : Int64) ((v1 - (1 : Int32))).toInt64 σ) fun v4 =>
  if v4 = 0 ∨ v4 = 1 then
    some v4
  else none
/-- SteepleWordsModel.isSteeple -/
def FX7_isSteeple (p0 : Int32) (σ : qH) : Option (Int32) :=
  b1 (FX7_in (p0).toInt64 (0 : Int64) (2 : Int64) σ) fun v2 =>
  if v2 = 0 ∨ v2 = 1 then
    some v2
  else none
/-- SteepleWordsModel.isTeller -/
def FX7_isTeller (p0 : Int32) (σ : qH) : Option (Int32) :=
  b1 (FX7_in (p0).toInt64 (0 : Int64) (5 : Int64) σ) fun v2 =>
  if v2 = 0 ∨ v2 = 1 then
    some v2
  else none
/-- SteepleWordsModel.isSetting -/
def FX7_isSetting (p0 : Int32) (p1 : Int32) (σ : qH) : Option (Int32) :=
  b1 ((
      if p0 = 0 then
        b1 (FX7_in (p1).toInt64 (0 : Int64) (5 : Int64) σ) fun v3 =>
        if v3 = 0 then
          if p0 = (1 : Int32) then
            b1 (FX7_in (p1).toInt64 (0 : Int64) (50 : Int64) σ) fun v5 =>
            if v5 = 0 then
              some (0 : Int32)
            else
              some (1 : Int32)
          else
            some (0 : Int32)
        else
          some (1 : Int32)
      else
        if p0 = (1 : Int32) then
          b1 (FX7_in (p1).toInt64 (0 : Int64) (50 : Int64) σ) fun v7 =>
          if v7 = 0 then
            some (0 : Int32)
          else
            some (1 : Int32)
        else
          some (0 : Int32)
    ) : Option (Int32)) fun x1 =>
  if x1 = 0 ∨ x1 = 1 then
    some x1
  else none
/-- SteepleWordsModel.areFine -/
def FX7_areFine (p0 : Int32) (p1 : Int32) (p2 : Int32) (p3 : Int32) (p4 : Int32) (σ : qH) : Option (Int32) :=
  if p0 = (0 : Int32) then
    b1 (FX7_in (p1).toInt64 (1 : Int64) (20 : Int64) σ) fun v2 =>
    b1 ((
        if v2 = 0 then
          some (0 : Int32)
        else
          b1 (FX7_in (p2).toInt64 (1 : Int64) (40 : Int64) σ) fun v5 =>
          if v5 = 0 then
            some (0 : Int32)
          else
            b1 (FX7_in (p3).toInt64 (1 : Int64) (400 : Int64) σ) fun v7 =>
            if v7 = 0 then
              some (0 : Int32)
            else
              b1 (FX7_in (p4).toInt64 (0 : Int64) (20 : Int64) σ) fun v9 =>
              if v9 = 0 then
                some (0 : Int32)
              else
                some (1 : Int32)
      ) : Option (Int32)) fun x3 =>
    if x3 = 0 ∨ x3 = 1 then
      some x3
    else none
  else
  if p0 = (1 : Int32) then
    b1 (FX7_in (p1).toInt64 (1 : Int64) (9 : Int64) σ) fun v13 =>
    b1 ((
        if v13 = 0 then
          some (0 : Int32)
        else
          b1 (FX7_in (p2).toInt64 (1 : Int64) (60 : Int64) σ) fun v16 =>
          if v16 = 0 then
            some (0 : Int32)
          else
            b1 (FX7_in (p3).toInt64 (1 : Int64) (400 : Int64) σ) fun v18 =>
            if v18 = 0 then
              some (0 : Int32)
            else
              b1 (FX7_in (p4).toInt64 (0 : Int64) (20 : Int64) σ) fun v20 =>
              if v20 = 0 then
                some (0 : Int32)
              else
                some (1 : Int32)
      ) : Option (Int32)) fun x14 =>
    if x14 = 0 ∨ x14 = 1 then
      some x14
    else none
  else
  if p0 = (2 : Int32) then
    b1 (FX7_in (p1).toInt64 (1 : Int64) (999 : Int64) σ) fun v24 =>
    b1 ((
        if v24 = 0 then
          some (0 : Int32)
        else
          b1 (FX7_in (p2).toInt64 (p1).toInt64 (999 : Int64) σ) fun v27 =>
          if v27 = 0 then
            some (0 : Int32)
          else
            if p3 = 0 then
              if p4 = 0 then
                some (1 : Int32)
              else
                some (0 : Int32)
            else
              some (0 : Int32)
      ) : Option (Int32)) fun x25 =>
    if x25 = 0 ∨ x25 = 1 then
      some x25
    else none
  else
  some (0 : Int32)
/-- SteepleWordsModel.bounded -/
def FX7_bounded (p0 : Int32) (σ : qH) : Option (Int32) :=
  b1 ((
      if (1 : Int32) ≤ p0 then
        if p0 ≤ (999 : Int32) then
          some p0
        else
          some (999 : Int32)
      else
        some (1 : Int32)
    ) : Option (Int32)) fun x1 =>
  some x1
/-- SteepleWordsModel.least -/
def FX7_least (p0 : Nat) (p1 : Int32) (σ : qH) : Option (Int32) :=
  b1 (FX7_of p0 p1 (3 : Int32) σ) fun v2 =>
  b1 (FX7_of p0 p1 (5 : Int32) σ) fun v4 =>
  b1 (FX7_of p0 p1 (6 : Int32) σ) fun v6 =>
  b1 (FX7_of p0 p1 (2 : Int32) σ) fun v8 =>
  b1 ((
      if v8 = (2 : Int32) then
        some v2
      else
        if (1 : Int32) ≤ (v4 - v6) then
          b1 (FX7_of p0 p1 (4 : Int32) σ) fun v11 =>
          if v11 = 0 then none else
          b1 (FX7_bounded ((v2 * (v4 - v6)) / v11) σ) fun v14 =>
          some v14
        else
          some (1 : Int32)
    ) : Option (Int32)) fun x9 =>
  some x9
/-- SteepleWordsModel.greatest -/
def FX7_greatest (p0 : Nat) (p1 : Int32) (σ : qH) : Option (Int32) :=
  b1 (FX7_of p0 p1 (4 : Int32) σ) fun v2 =>
  b1 (FX7_of p0 p1 (2 : Int32) σ) fun v4 =>
  b1 ((
      if v4 = (2 : Int32) then
        some v2
      else
        b1 (FX7_of p0 p1 (3 : Int32) σ) fun v7 =>
        b1 (FX7_of p0 p1 (5 : Int32) σ) fun v9 =>
        b1 (FX7_of p0 p1 (6 : Int32) σ) fun v11 =>
        if v2 = 0 then none else
        b1 (FX7_bounded ((((v7 * (v9 + v11)) + v2) - (1 : Int32)) / v2) σ) fun v14 =>
        some v14
    ) : Option (Int32)) fun x5 =>
  some x5
/-- SteepleWordsModel.tells -/
def FX7_tells (p0 : Nat) (p1 : Int32) (p2 : Int32) (σ : qH) : Option (Int32) :=
  b1 (FX7_least p0 p1 σ) fun v2 =>
  b1 (FX7_greatest p0 p1 σ) fun v4 =>
  b1 (FX7_in (p2).toInt64 (v2).toInt64 (v4).toInt64 σ) fun v6 =>
  if v6 = 0 ∨ v6 = 1 then
    some v6
  else none
/-- SteepleWordsModel.weight -/
def FX7_weight (p0 : Nat) (p1 : Int32) (σ : qH) : Option (Int32) :=
  b1 (FX7_of p0 p1 (1 : Int32) σ) fun v2 =>
  b1 (aI σ p0 ((9 : Int32) + v2)) fun v3 =>
  b1 (FX7_of p0 p1 (2 : Int32) σ) fun v6 =>
  b1 ((
      if (2 : Int32) ≤ v6 then
        some (0 : Int32)
      else
        b1 (aI σ p0 (7 : Int32)) fun v8 =>
        some v8
    ) : Option (Int32)) fun x7 =>
  some (v3 + x7)
/-- SteepleWordsModel.gap -/
def FX7_gap (p0 : Nat) (p1 : Int32) (p2 : Int32) (σ : qH) : Option (Int32) :=
  b1 (FX7_least p0 p1 σ) fun v2 =>
  b1 (FX7_greatest p0 p2 σ) fun v4 =>
  b1 (FX7_least p0 p2 σ) fun v6 =>
  b1 (FX7_greatest p0 p1 σ) fun v8 =>
  b1 ((
      if (v2 - v4) ≤ (v6 - v8) then
        some (v6 - v8)
      else
        some (v2 - v4)
    ) : Option (Int32)) fun x9 =>
  b1 ((
      if x9 ≤ 0 then
        some (0 : Int32)
      else
        some x9
    ) : Option (Int32)) fun x10 =>
  some x10
/-- SteepleWordsModel.quarrel -/
def FX7_quarrel (p0 : Nat) (p1 : Int32) (p2 : Int32) (σ : qH) : Option (Int32) :=
  b1 (FX7_of p0 p1 (0 : Int32) σ) fun v2 =>
  b1 (FX7_of p0 p2 (0 : Int32) σ) fun v4 =>
  b1 ((
      if v2 = v4 then
        b1 (FX7_of p0 p1 (1 : Int32) σ) fun v7 =>
        b1 (FX7_of p0 p2 (1 : Int32) σ) fun v9 =>
        if v7 = v9 then
          some (0 : Int32)
        else
          b1 (FX7_gap p0 p1 p2 σ) fun v11 =>
          if v11 ≤ 0 then
            some (0 : Int32)
          else
            some (1 : Int32)
      else
        some (0 : Int32)
    ) : Option (Int32)) fun x5 =>
  if x5 = 0 ∨ x5 = 1 then
    some x5
  else none
/-- SteepleWordsModel.quarrelsOf -/
def FX7_quarrelsOf_L4 (a0 : Nat) (a1 : Int32) (σ : qH) : Nat → Int32 → Int32 → Option (Int32)
  | 0, _, _ => none
  | q + 1, y2, y3 =>
    b1 (aI σ a0 (0 : Int32)) fun v1 =>
    if v1 ≤ y3 then
      some y2
    else
      b1 (FX7_quarrel a0 a1 y3 σ) fun v4 =>
      b1 ((
          if v4 = 0 then
            some (0 : Int32)
          else
            some (1 : Int32)
        ) : Option (Int32)) fun x5 =>
      FX7_quarrelsOf_L4 a0 a1 σ q (y2 + x5) (y3 + (1 : Int32))
def FX7_quarrelsOf (p0 : Nat) (p1 : Int32) (σ : qH) : Option (Int32) :=
  b1 (FX7_quarrelsOf_L4 p0 p1 σ qfuel (0 : Int32) (0 : Int32)) fun x7 =>
  some x7
/-- SteepleWordsModel.pairs -/
def FX7_pairs_L16 (a0 : Nat) (a1 : Int32) (a3 : Int32) (σ : qH) : Nat → Int32 → Int32 → Option (Int32)
  | 0, _, _ => none
  | q + 1, y2, y4 =>
    b1 (aI σ a0 (0 : Int32)) fun v3 =>
    if v3 ≤ y4 then
      some y2
    else
      b1 (FX7_quarrel a0 a3 y4 σ) fun v6 =>
      b1 ((
          if v6 = 0 then
            some (0 : Int32)
          else
            b1 (FX7_gap a0 a3 y4 σ) fun v9 =>
            if v9 ≤ a1 then
              some (0 : Int32)
            else
              some (1 : Int32)
        ) : Option (Int32)) fun x7 =>
      FX7_pairs_L16 a0 a1 a3 σ q (y2 + x7) (y4 + (1 : Int32))
def FX7_pairs_L4 (a0 : Nat) (a1 : Int32) (σ : qH) : Nat → Int32 → Int32 → Option (Int32)
  | 0, _, _ => none
  | q + 1, y2, y3 =>
    b1 (aI σ a0 (0 : Int32)) fun v1 =>
    if v1 ≤ y3 then
      some y2
    else
      b1 (FX7_pairs_L16 a0 a1 y3 σ qfuel y2 (y3 + (1 : Int32))) fun x11 =>
      FX7_pairs_L4 a0 a1 σ q x11 (y3 + (1 : Int32))
def FX7_pairs (p0 : Nat) (p1 : Int32) (σ : qH) : Option (Int32) :=
  b1 (FX7_pairs_L4 p0 p1 σ qfuel (0 : Int32) (0 : Int32)) fun x13 =>
  some x13
/-- SteepleWordsModel.voteOf -/
def FX7_voteOf_L5 (a0 : Nat) (a1 : Int32) (a2 : Int32) (σ : qH) : Nat → Int32 → Int32 → Option (Int32)
  | 0, _, _ => none
  | q + 1, y3, y4 =>
    b1 (aI σ a0 (0 : Int32)) fun v1 =>
    if v1 ≤ y4 then
      some y3
    else
      b1 (FX7_of a0 y4 (0 : Int32) σ) fun v4 =>
      b1 ((
          if v4 = a1 then
            b1 (FX7_tells a0 y4 a2 σ) fun v7 =>
            if v7 = 0 then
              some (0 : Int32)
            else
              b1 (FX7_weight a0 y4 σ) fun v9 =>
              some v9
          else
            some (0 : Int32)
        ) : Option (Int32)) fun x5 =>
      FX7_voteOf_L5 a0 a1 a2 σ q (y3 + x5) (y4 + (1 : Int32))
def FX7_voteOf (p0 : Nat) (p1 : Int32) (p2 : Int32) (σ : qH) : Option (Int32) :=
  b1 (FX7_voteOf_L5 p0 p1 p2 σ qfuel (0 : Int32) (0 : Int32)) fun x11 =>
  some x11
/-- SteepleWordsModel.lowestBest -/
def FX7_lowestBest_L12 (a0 : Nat) (a1 : Int32) (σ : qH) : Nat → Int32 → Int32 → Int32 → Option (Int32)
  | 0, _, _, _ => none
  | q + 1, y2, y3, y4 =>
    if (999 : Int32) < y4 then
      some y2
    else
      b1 (FX7_voteOf a0 a1 y4 σ) fun v4 =>
      b1 ((
          if v4 ≤ y3 then
            some y2
          else
            some y4
        ) : Option (Int32)) fun x5 =>
      b1 ((
          if v4 ≤ y3 then
            some y3
          else
            some v4
        ) : Option (Int32)) fun x6 =>
      FX7_lowestBest_L12 a0 a1 σ q x5 x6 (y4 + (1 : Int32))
def FX7_lowestBest (p0 : Nat) (p1 : Int32) (σ : qH) : Option (Int32) :=
  b1 (FX7_voteOf p0 p1 (1 : Int32) σ) fun v2 =>
  b1 (FX7_lowestBest_L12 p0 p1 σ qfuel (1 : Int32) v2 (2 : Int32)) fun x9 =>
  some x9
/-- SteepleWordsModel.bestOf -/
def FX7_bestOf_L17 (a0 : Nat) (a1 : Int32) (a2 : Int32) (a3 : Int32) (a4 : Int32) (σ : qH) : Nat → Int32 → Option (Int32)
  | 0, _ => none
  | q + 1, y5 =>
    if (999 : Int32) ≤ y5 then
      some y5
    else
      b1 (FX7_voteOf a0 a1 (y5 + (1 : Int32)) σ) fun v6 =>
      if v6 = a4 then
        FX7_bestOf_L17 a0 a1 a2 a3 a4 σ q (y5 + (1 : Int32))
      else
        some y5
def FX7_bestOf (p0 : Nat) (p1 : Int32) (p2 : Int32) (σ : qH) : Option (Int32) :=
  b1 (FX7_lowestBest p0 p1 σ) fun v2 =>
  b1 (FX7_voteOf p0 p1 v2 σ) fun v4 =>
  b1 (FX7_bestOf_L17 p0 p1 p2 v2 v4 σ qfuel v2) fun x7 =>
  b1 ((
      if p2 = 0 then
        some v2
      else
        if p2 = (1 : Int32) then
          some x7
        else
          some v4
    ) : Option (Int32)) fun x8 =>
  some x8
/-- SteepleWordsModel.measureOn -/
def FX7_measureOn (p0 : Nat) (p1 : Int32) (p2 : Int32) (p3 : Int32) (p4 : Int32) (p5 : Int32) (p6 : Int32) (p7 : Int32) (σ : qH) : Option (Int32 × qH) :=
  b1 (aI σ p0 (0 : Int32)) fun v1 =>
  b1 (sI σ p0 ((30 : Int32) + ((7 : Int32) * v1)) p1) fun s3 =>
  b1 (sI s3 p0 (((30 : Int32) + ((7 : Int32) * v1)) + (1 : Int32)) p2) fun s5 =>
  b1 (sI s5 p0 (((30 : Int32) + ((7 : Int32) * v1)) + (2 : Int32)) p3) fun s7 =>
  b1 (sI s7 p0 (((30 : Int32) + ((7 : Int32) * v1)) + (3 : Int32)) p4) fun s9 =>
  b1 (sI s9 p0 (((30 : Int32) + ((7 : Int32) * v1)) + (4 : Int32)) p5) fun s11 =>
  b1 (sI s11 p0 (((30 : Int32) + ((7 : Int32) * v1)) + (5 : Int32)) p6) fun s13 =>
  b1 (sI s13 p0 (((30 : Int32) + ((7 : Int32) * v1)) + (6 : Int32)) p7) fun s15 =>
  b1 (aI s15 p0 (0 : Int32)) fun v17 =>
  b1 (sI s15 p0 (0 : Int32) (v17 + (1 : Int32))) fun s19 =>
  b1 (aI s19 p0 (1 : Int32)) fun v21 =>
  b1 (sI s19 p0 (1 : Int32) (v21 + (1 : Int32))) fun s23 =>
  b1 (aI s23 p0 (0 : Int32)) fun v25 =>
  some ((v25 - (1 : Int32)), s23)
/-- SteepleWordsModel.dropOn -/
def FX7_dropOn_L8 (a0 : Nat) : Nat → Int32 → qH → Option (qH)
  | 0, _, _ => none
  | q + 1, y2, σ =>
    b1 (aI σ a0 (0 : Int32)) fun v1 =>
    if ((30 : Int32) + ((7 : Int32) * (v1 - (1 : Int32)))) ≤ y2 then
      some σ
    else
      b1 (aI σ a0 (y2 + (7 : Int32))) fun v3 =>
      b1 (sI σ a0 y2 v3) fun s5 =>
      FX7_dropOn_L8 a0 q (y2 + (1 : Int32)) s5
def FX7_dropOn (p0 : Nat) (p1 : Int32) (σ : qH) : Option (Int32 × qH) :=
  b1 (FX7_dropOn_L8 p0 qfuel ((30 : Int32) + ((7 : Int32) * p1)) σ) fun s7 =>
  b1 (aI s7 p0 (0 : Int32)) fun v8 =>
  b1 (sI s7 p0 (0 : Int32) (v8 - (1 : Int32))) fun s10 =>
  b1 (aI s10 p0 (0 : Int32)) fun v12 =>
  some (v12, s10)
/-- SteepleWordsModel.trustOn -/
def FX7_trustOn (p0 : Nat) (p1 : Int32) (p2 : Int32) (σ : qH) : Option (Int32 × qH) :=
  b1 (aI σ p0 ((9 : Int32) + p1)) fun v1 =>
  b1 (sI σ p0 ((9 : Int32) + p1) p2) fun s3 =>
  some (v1, s3)
/-- SteepleWordsModel.eveningOn -/
def FX7_eveningOn_L24 (a0 : Nat) (a1 : Int32) (a2 : Int32) : Nat → Int32 → qH → Option (qH)
  | 0, _, _ => none
  | q + 1, y3, σ =>
    b1 (aI σ a0 (0 : Int32)) fun v9 =>
    if v9 ≤ y3 then
      some σ
    else
      b1 (FX7_weight a0 a2 σ) fun v12 =>
      b1 (FX7_weight a0 y3 σ) fun v14 =>
      b1 ((
          if 0 ≤ (v12 - v14) then
            some y3
          else
            some a2
        ) : Option (Int32)) fun x15 =>
      b1 (FX7_of a0 x15 (1 : Int32) σ) fun v17 =>
      b1 (FX7_quarrel a0 a2 y3 σ) fun v19 =>
      b1 ((
          if v19 = 0 then
            some σ
          else
            b1 (FX7_gap a0 a2 y3 σ) fun v22 =>
            b1 (aI σ a0 (8 : Int32)) fun v23 =>
            if v22 ≤ v23 then
              some σ
            else
              if (v12 - v14) = 0 then
                some σ
              else
                b1 (aI σ a0 ((9 : Int32) + v17)) fun v25 =>
                if v25 ≤ 0 then
                  some σ
                else
                  b1 (aI σ a0 ((9 : Int32) + v17)) fun v27 =>
                  b1 (sI σ a0 ((9 : Int32) + v17) (v27 - (1 : Int32))) fun s29 =>
                  b1 (aI s29 a0 (4 : Int32)) fun v31 =>
                  b1 (sI s29 a0 (4 : Int32) (v31 + (1 : Int32))) fun s33 =>
                  some s33
        ) : Option (qH)) fun s20 =>
      FX7_eveningOn_L24 a0 a1 a2 q (y3 + (1 : Int32)) s20
def FX7_eveningOn_L13 (a0 : Nat) (a1 : Int32) : Nat → Int32 → qH → Option (qH)
  | 0, _, _ => none
  | q + 1, y2, σ =>
    b1 (aI σ a0 (0 : Int32)) fun v7 =>
    if v7 ≤ y2 then
      some σ
    else
      b1 (FX7_eveningOn_L24 a0 a1 y2 qfuel (y2 + (1 : Int32)) σ) fun s37 =>
      FX7_eveningOn_L13 a0 a1 q (y2 + (1 : Int32)) s37
def FX7_eveningOn (p0 : Nat) (σ : qH) : Option (Int32 × qH) :=
  b1 (aI σ p0 (4 : Int32)) fun v1 =>
  b1 (aI σ p0 (2 : Int32)) fun v3 =>
  b1 (sI σ p0 (2 : Int32) (v3 + (1 : Int32))) fun s5 =>
  b1 (FX7_eveningOn_L13 p0 v1 qfuel (0 : Int32) s5) fun s39 =>
  b1 (aI s39 p0 (4 : Int32)) fun v40 =>
  some ((v40 - v1), s39)
/-- SteepleWordsModel.sees -/
def FX7_sees (p0 : Nat) (p1 : Int32) (p2 : Int32) (σ : qH) : Option (qH) :=
  b1 (aI σ p0 ((9 : Int32) + p1)) fun v1 =>
  b1 ((
      if p2 = 0 then
        some (-1 : Int32)
      else
        some (1 : Int32)
    ) : Option (Int32)) fun x3 =>
  b1 ((
      if 0 ≤ (v1 + x3) then
        if (v1 + x3) ≤ (9 : Int32) then
          some (v1 + x3)
        else
          some (9 : Int32)
      else
        some (0 : Int32)
    ) : Option (Int32)) fun x4 =>
  b1 (sI σ p0 ((9 : Int32) + p1) x4) fun s5 =>
  b1 ((
      if p2 = 0 then
        some (6 : Int32)
      else
        some (5 : Int32)
    ) : Option (Int32)) fun x7 =>
  b1 (aI s5 p0 x7) fun v8 =>
  b1 (sI s5 p0 x7 (v8 + (1 : Int32))) fun s10 =>
  b1 ((
      if p2 = 0 then
        some (21 : Int32)
      else
        some (15 : Int32)
    ) : Option (Int32)) fun x12 =>
  b1 (aI s10 p0 (x12 + p1)) fun v13 =>
  b1 (sI s10 p0 (x12 + p1) (v13 + (1 : Int32))) fun s15 =>
  some s15
/-- SteepleWordsModel.surveyOn -/
def FX7_surveyOn_L5 (a0 : Nat) (a1 : Int32) (a2 : Int32) : Nat → Int32 → Int32 → qH → Option (Int32 × qH)
  | 0, _, _, _ => none
  | q + 1, y3, y4, σ =>
    b1 (aI σ a0 (0 : Int32)) fun v1 =>
    if v1 ≤ y4 then
      some (y3, σ)
    else
      b1 (FX7_of a0 y4 (0 : Int32) σ) fun v4 =>
      if v4 = a1 then
        b1 (FX7_tells a0 y4 a2 σ) fun v6 =>
        b1 (FX7_of a0 y4 (1 : Int32) σ) fun v8 =>
        b1 (FX7_sees a0 v8 v6 σ) fun s10 =>
        b1 ((
            if v6 = 0 then
              some (0 : Int32)
            else
              some (1 : Int32)
          ) : Option (Int32)) fun x11 =>
        b2 (FX7_dropOn a0 y4 s10) fun v13 s14 =>
        FX7_surveyOn_L5 a0 a1 a2 q (y3 + x11) y4 s14
      else
        FX7_surveyOn_L5 a0 a1 a2 q y3 (y4 + (1 : Int32)) σ
def FX7_surveyOn (p0 : Nat) (p1 : Int32) (p2 : Int32) (σ : qH) : Option (Int32 × qH) :=
  b2 (FX7_surveyOn_L5 p0 p1 p2 qfuel (0 : Int32) (0 : Int32) σ) fun x16 s17 =>
  b1 (aI s17 p0 (3 : Int32)) fun v18 =>
  b1 (sI s17 p0 (3 : Int32) (v18 + (1 : Int32))) fun s20 =>
  b1 (sI s20 p0 ((27 : Int32) + p1) p2) fun s22 =>
  some (x16, s22)
/-- SteepleWordsModel.change -/
def FX7_change (p0 : Nat) (p1 : Int32) (p2 : Int32) (σ : qH) : Option (Int32 × qH) :=
  b1 (aI σ p0 ((7 : Int32) + p1)) fun v1 =>
  b1 (sI σ p0 ((7 : Int32) + p1) p2) fun s3 =>
  some (v1, s3)
/-- SteepleWordsModel.allTrust -/
def FX7_allTrust_L4 (a0 : Nat) (σ : qH) : Nat → Int32 → Int32 → Option (Int32)
  | 0, _, _ => none
  | q + 1, y1, y2 =>
    if (6 : Int32) ≤ y2 then
      some y1
    else
      b1 (aI σ a0 ((9 : Int32) + y2)) fun v1 =>
      FX7_allTrust_L4 a0 σ q (y1 + v1) (y2 + (1 : Int32))
def FX7_allTrust (p0 : Nat) (σ : qH) : Option (Int32) :=
  b1 (FX7_allTrust_L4 p0 σ qfuel (0 : Int32) (0 : Int32)) fun x3 =>
  some x3
/-- SteepleWordsModel.append -/
def FX7_append (b : Nat) (p0 : Int32) (σ : qH) : Option (Int32 × qH) :=
  b1 (gC σ b 5) fun _ =>
  b1 (FX7_in (p0).toInt64 (0 : Int64) (255 : Int64) σ) fun v2 =>
  b1 ((
      if v2 = 0 then
        some (1 : Int32)
      else
        b1 (gI σ b 5 2) fun v4 =>
        if v4 = (120 : Int32) then
          some (2 : Int32)
        else
          some (0 : Int32)
    ) : Option (Int32)) fun x3 =>
  b2 (FX7_refused b x3 σ) fun v7 s8 =>
  if v7 = 0 then
    b1 (gR s8 b 5 1) fun r9 =>
    b1 (gI s8 b 5 2) fun v11 =>
    b1 (sI s8 r9 v11 p0) fun s13 =>
    b1 (gI s13 b 5 2) fun v15 =>
    b1 (gP s13 b 5 2 (.int (v15 + (1 : Int32)))) fun s17 =>
    b1 (gI s17 b 5 2) fun v19 =>
    some (v19, s17)
  else
    some ((0 : Int32), s8)
/-- SteepleWordsModel.clearText -/
def FX7_clearText (b : Nat) (σ : qH) : Option (Int32 × qH) :=
  b1 (gC σ b 5) fun _ =>
  b1 (gP σ b 5 0 (.int (0 : Int32))) fun s1 =>
  b1 (gI s1 b 5 2) fun v3 =>
  b1 (gP s1 b 5 2 (.int (0 : Int32))) fun s5 =>
  some (v3, s5)
/-- SteepleWordsModel.figures -/
def FX7_figures_L6 (a0 : Nat) (a1 : Int32) (a3 : Int32) (a4 : Int32) : Nat → Int32 → Int32 → qH → Option (Int32 × qH)
  | 0, _, _, _ => none
  | q + 1, y5, y6, σ =>
    if y6 ≤ 0 then
      b1 ((
          if a1 = (-1 : Int32) then
            some (-1 : Int32)
          else
            some y5
        ) : Option (Int32)) fun x1 =>
      some (x1, σ)
    else
      if a1 = (-1 : Int32) then
        b1 ((
            if a1 = (-1 : Int32) then
              some (-1 : Int32)
            else
              some y5
          ) : Option (Int32)) fun x3 =>
        some (x3, σ)
      else
        b1 (gI σ a0 5 9) fun v5 =>
        b1 (gI σ a0 5 2) fun v7 =>
        b1 ((
            if v7 ≤ v5 then
              some (-1 : Int32)
            else
              b1 (gR σ a0 5 1) fun r10 =>
              b1 (gI σ a0 5 9) fun v12 =>
              b1 (aI σ r10 v12) fun v14 =>
              some (v14 - (48 : Int32))
          ) : Option (Int32)) fun x9 =>
        b1 (FX7_in (x9).toInt64 (0 : Int64) (9 : Int64) σ) fun v17 =>
        if v17 = 0 then
          some ((-1 : Int32), σ)
        else
          if a4 < (y5 + (x9 * y6)) then
            some ((-1 : Int32), σ)
          else
            if a3 ≤ (((y5 + (x9 * y6)) + y6) - (1 : Int32)) then
              b1 (gI σ a0 5 9) fun v18 =>
              b1 (gP σ a0 5 9 (.int (v18 + (1 : Int32)))) fun s20 =>
              FX7_figures_L6 a0 a1 a3 a4 q (y5 + (x9 * y6)) (y6 / (10 : Int32)) s20
            else
              some ((-1 : Int32), σ)
def FX7_figures (b : Nat) (p0 : Int32) (p1 : Int32) (p2 : Int32) (p3 : Int32) (σ : qH) : Option (Int32 × qH) :=
  b1 (gC σ b 5) fun _ =>
  FX7_figures_L6 b p0 p2 p3 qfuel (0 : Int32) p1 σ
/-- SteepleWordsModel.done -/
def FX7_done (b : Nat) (p0 : Int32) (σ : qH) : Option (Int32 × qH) :=
  b1 (gC σ b 5) fun _ =>
  b1 (gI σ b 5 10) fun v1 =>
  b1 ((
      if p0 = 0 then
        some (1 : Int32)
      else
        some (0 : Int32)
    ) : Option (Int32)) fun x3 =>
  b1 (gP σ b 5 10 (.int (v1 + x3))) fun s4 =>
  some ((1 : Int32), s4)
/-- SteepleWordsModel.readMeasure -/
def FX7_readMeasure (b : Nat) (p0 : Nat) (p1 : Int32) (σ : qH) : Option (Int32 × qH) :=
  b1 (gC σ b 5) fun _ =>
  b2 (FX7_figures b (0 : Int32) (1 : Int32) (0 : Int32) (2 : Int32) σ) fun v2 s3 =>
  b2 (FX7_figures b v2 (1 : Int32) (0 : Int32) (5 : Int32) s3) fun v5 s6 =>
  b2 ((
      if p1 = 0 then
        b2 (FX7_figures b v5 (10 : Int32) (1 : Int32) (20 : Int32) s6) fun v10 s11 =>
        some (v10, s11)
      else
        if p1 = (1 : Int32) then
          b2 (FX7_figures b v5 (1 : Int32) (1 : Int32) (9 : Int32) s6) fun v13 s14 =>
          some (v13, s14)
        else
          b2 (FX7_figures b v5 (100 : Int32) (1 : Int32) (999 : Int32) s6) fun v16 s17 =>
          some (v16, s17)
    ) : Option (Int32 × qH)) fun x7 s8 =>
  b2 ((
      if p1 = (2 : Int32) then
        b2 (FX7_figures b x7 (100 : Int32) (1 : Int32) (999 : Int32) s8) fun v21 s22 =>
        some (v21, s22)
      else
        b1 ((
            if p1 = 0 then
              some (40 : Int32)
            else
              some (60 : Int32)
          ) : Option (Int32)) fun x23 =>
        b2 (FX7_figures b x7 (10 : Int32) (1 : Int32) x23 s8) fun v25 s26 =>
        some (v25, s26)
    ) : Option (Int32 × qH)) fun x18 s19 =>
  b2 ((
      if p1 = (2 : Int32) then
        if x18 = (-1 : Int32) then
          some ((-1 : Int32), s19)
        else
          some ((0 : Int32), s19)
      else
        b2 (FX7_figures b x18 (100 : Int32) (1 : Int32) (400 : Int32) s19) fun v31 s32 =>
        some (v31, s32)
    ) : Option (Int32 × qH)) fun x28 s29 =>
  b2 ((
      if p1 = (2 : Int32) then
        some (x28, s29)
      else
        b2 (FX7_figures b x28 (10 : Int32) (0 : Int32) (20 : Int32) s29) fun v36 s37 =>
        some (v36, s37)
    ) : Option (Int32 × qH)) fun x33 s34 =>
  b2 ((
      if x33 = (-1 : Int32) then
        some ((0 : Int32), s34)
      else
        b1 (FX7_areFine p1 x7 x18 x28 x33 s34) fun v41 =>
        b2 ((
            if v41 = 0 then
              some ((0 : Int32), s34)
            else
              b1 (aI s34 p0 (0 : Int32)) fun v44 =>
              if (16 : Int32) ≤ v44 then
                some ((0 : Int32), s34)
              else
                b2 (FX7_measureOn p0 v2 v5 p1 x7 x18 x28 x33 s34) fun v47 s48 =>
                if v47 < 0 then
                  some ((0 : Int32), s48)
                else
                  some ((1 : Int32), s48)
          ) : Option (Int32 × qH)) fun x42 s43 =>
        b2 (FX7_done b x42 s43) fun v50 s51 =>
        if v50 = 0 then
          some ((0 : Int32), s51)
        else
          some ((1 : Int32), s51)
    ) : Option (Int32 × qH)) fun x38 s39 =>
  if x38 = 0 ∨ x38 = 1 then
    some (x38, s39)
  else none
/-- SteepleWordsModel.readCommand -/
def FX7_readCommand (b : Nat) (p0 : Nat) (σ : qH) : Option (Int32 × qH) :=
  b1 (gC σ b 5) fun _ =>
  b1 (gR σ b 5 1) fun r1 =>
  b1 (gI σ b 5 9) fun v3 =>
  b1 (aI σ r1 v3) fun v5 =>
  b1 (gI σ b 5 9) fun v7 =>
  b1 (gP σ b 5 9 (.int (v7 + (1 : Int32)))) fun s9 =>
  if v5 = (100 : Int32) then
    b2 (FX7_figures b (0 : Int32) (10 : Int32) (0 : Int32) (15 : Int32) s9) fun v12 s13 =>
    b2 ((
        if v12 = (-1 : Int32) then
          some ((0 : Int32), s13)
        else
          b1 (FX7_isMeasure p0 v12 s13) fun v17 =>
          b2 ((
              if v17 = 0 then
                some ((0 : Int32), s13)
              else
                b2 (FX7_dropOn p0 v12 s13) fun v21 s22 =>
                if v21 < 0 then
                  some ((0 : Int32), s22)
                else
                  some ((1 : Int32), s22)
            ) : Option (Int32 × qH)) fun x18 s19 =>
          b2 (FX7_done b x18 s19) fun v24 s25 =>
          if v24 = 0 then
            some ((0 : Int32), s25)
          else
            some ((1 : Int32), s25)
      ) : Option (Int32 × qH)) fun x14 s15 =>
    if x14 = 0 ∨ x14 = 1 then
      some (x14, s15)
    else none
  else
  if v5 = (111 : Int32) then
    b2 (FX7_readMeasure b p0 (1 : Int32) s9) fun v30 s31 =>
    if v30 = 0 ∨ v30 = 1 then
      some (v30, s31)
    else none
  else
  if v5 = (113 : Int32) then
    b2 (FX7_eveningOn p0 s9) fun v34 s35 =>
    b1 ((
        if v34 < 0 then
          some (0 : Int32)
        else
          some (1 : Int32)
      ) : Option (Int32)) fun x36 =>
    b2 (FX7_done b x36 s35) fun v38 s39 =>
    if v38 = 0 ∨ v38 = 1 then
      some (v38, s39)
    else none
  else
  if v5 = (115 : Int32) then
    b2 (FX7_readMeasure b p0 (0 : Int32) s9) fun v43 s44 =>
    if v43 = 0 ∨ v43 = 1 then
      some (v43, s44)
    else none
  else
  if v5 = (116 : Int32) then
    b2 (FX7_figures b (0 : Int32) (1 : Int32) (0 : Int32) (5 : Int32) s9) fun v47 s48 =>
    b2 (FX7_figures b v47 (1 : Int32) (0 : Int32) (9 : Int32) s48) fun v50 s51 =>
    b2 ((
        if v50 = (-1 : Int32) then
          some ((0 : Int32), s51)
        else
          b2 (FX7_trustOn p0 v47 v50 s51) fun v55 s56 =>
          b1 ((
              if v55 < 0 then
                some (0 : Int32)
              else
                some (1 : Int32)
            ) : Option (Int32)) fun x57 =>
          b2 (FX7_done b x57 s56) fun v59 s60 =>
          if v59 = 0 then
            some ((0 : Int32), s60)
          else
            some ((1 : Int32), s60)
      ) : Option (Int32 × qH)) fun x52 s53 =>
    if x52 = 0 ∨ x52 = 1 then
      some (x52, s53)
    else none
  else
  if v5 = (118 : Int32) then
    b2 (FX7_figures b (0 : Int32) (1 : Int32) (0 : Int32) (2 : Int32) s9) fun v65 s66 =>
    b2 (FX7_figures b v65 (100 : Int32) (1 : Int32) (999 : Int32) s66) fun v68 s69 =>
    b2 ((
        if v68 = (-1 : Int32) then
          some ((0 : Int32), s69)
        else
          b2 (FX7_surveyOn p0 v65 v68 s69) fun v73 s74 =>
          b1 ((
              if v73 < 0 then
                some (0 : Int32)
              else
                some (1 : Int32)
            ) : Option (Int32)) fun x75 =>
          b2 (FX7_done b x75 s74) fun v77 s78 =>
          if v77 = 0 then
            some ((0 : Int32), s78)
          else
            some ((1 : Int32), s78)
      ) : Option (Int32 × qH)) fun x70 s71 =>
    if x70 = 0 ∨ x70 = 1 then
      some (x70, s71)
    else none
  else
  if v5 = (119 : Int32) then
    b2 (FX7_readMeasure b p0 (2 : Int32) s9) fun v83 s84 =>
    if v83 = 0 ∨ v83 = 1 then
      some (v83, s84)
    else none
  else
  b1 (gI s9 b 5 9) fun v86 =>
  b1 (gP s9 b 5 9 (.int (v86 - (1 : Int32)))) fun s88 =>
  some ((0 : Int32), s88)
/-- SteepleWordsModel.readText -/
def FX7_readText_L39 (a0 : Nat) (a1 : Nat) : Nat → qH → Option (Int32 × qH)
  | 0, _ => none
  | q + 1, σ =>
    b1 (gI σ a0 5 9) fun v15 =>
    b1 (gI σ a0 5 2) fun v17 =>
    if v17 ≤ v15 then
      some ((-1 : Int32), σ)
    else
      b2 (FX7_readCommand a0 a1 σ) fun v20 s21 =>
      if v20 = 0 then
        b1 (gI s21 a0 5 9) fun v22 =>
        some (v22, s21)
      else
        FX7_readText_L39 a0 a1 q s21
def FX7_readText (b : Nat) (p0 : Nat) (σ : qH) : Option (Int32 × qH) :=
  b1 (gC σ b 5) fun _ =>
  b1 (FX7_clear p0 σ) fun s2 =>
  b1 (gP s2 b 5 10 (.int (0 : Int32))) fun s3 =>
  b1 (gP s3 b 5 9 (.int (0 : Int32))) fun s5 =>
  b1 (gI s5 b 5 2) fun v7 =>
  if v7 = 0 then
    some ((0 : Int32), s5)
  else
    b1 (gR s5 b 5 1) fun r9 =>
    b1 (aI s5 r9 (0 : Int32)) fun v11 =>
    if v11 = (80 : Int32) then
      b1 (gP s5 b 5 9 (.int (1 : Int32))) fun s13 =>
      FX7_readText_L39 b p0 qfuel s13
    else
      some ((0 : Int32), s5)
/-- SteepleWordsModel.errorPosition -/
def FX7_errorPosition (b : Nat) (σ : qH) : Option (Int32 × qH) :=
  b1 (gC σ b 5) fun _ =>
  b1 (gP σ b 5 0 (.int (0 : Int32))) fun s1 =>
  b1 (gR s1 b 5 4) fun r3 =>
  b2 (FX7_readText b r3 s1) fun v6 s7 =>
  some (v6, s7)
/-- SteepleWordsModel.load -/
def FX7_load (b : Nat) (σ : qH) : Option (Int32 × qH) :=
  b1 (gC σ b 5) fun _ =>
  b1 (gR σ b 5 4) fun r1 =>
  b2 (FX7_readText b r1 σ) fun v4 s5 =>
  b1 ((
      if v4 = (-1 : Int32) then
        some (0 : Int32)
      else
        some (1 : Int32)
    ) : Option (Int32)) fun x6 =>
  b2 (FX7_refused b x6 s5) fun v8 s9 =>
  if v8 = 0 then
    b1 (gR s9 b 5 4) fun r10 =>
    b1 (gR s9 b 5 3) fun r12 =>
    b1 (FX7_copyState r10 (0 : Int32) r12 (0 : Int32) s9) fun s15 =>
    b1 (gP s15 b 5 6 (.int (0 : Int32))) fun s16 =>
    b1 (gR s16 b 5 8) fun r18 =>
    b1 (sZ s16 r18 (0 : Int32) (0 : Int32)) fun s20 =>
    b1 (gR s20 b 5 8) fun r22 =>
    b1 (sZ s20 r22 (1 : Int32) (0 : Int32)) fun s24 =>
    b1 (gI s24 b 5 10) fun v26 =>
    some (v26, s24)
  else
    some ((0 : Int32), s9)
/-- SteepleWordsModel.about -/
def FX7_about (b : Nat) (p0 : Int32) (σ : qH) : Option (Int32 × qH) :=
  b1 (gC σ b 5) fun _ =>
  b1 (FX7_in (p0).toInt64 (0 : Int64) (9 : Int64) σ) fun v2 =>
  b1 ((
      if v2 = 0 then
        some (1 : Int32)
      else
        some (0 : Int32)
    ) : Option (Int32)) fun x3 =>
  b2 (FX7_refused b x3 σ) fun v5 s6 =>
  if v5 = 0 then
    b1 ((
        if (4 : Int32) ≤ p0 then
          if p0 = (4 : Int32) then
            b1 (gR s6 b 5 3) fun r8 =>
            b1 (FX7_pairs r8 (0 : Int32) s6) fun v11 =>
            some v11
          else
            if p0 = (5 : Int32) then
              b1 (gR s6 b 5 3) fun r12 =>
              b1 (gR s6 b 5 3) fun r14 =>
              b1 (aI s6 r14 (8 : Int32)) fun v16 =>
              b1 (FX7_pairs r12 v16 s6) fun v19 =>
              some v19
            else
              if p0 = (6 : Int32) then
                b1 (gR s6 b 5 3) fun r20 =>
                b1 (FX7_allTrust r20 s6) fun v23 =>
                some v23
              else
                b1 (gR s6 b 5 3) fun r24 =>
                b1 (aI s6 r24 (p0 - (3 : Int32))) fun v26 =>
                some v26
        else
          b1 (gR s6 b 5 3) fun r28 =>
          b1 (aI s6 r28 p0) fun v30 =>
          some v30
      ) : Option (Int32)) fun x7 =>
    some (x7, s6)
  else
    some ((0 : Int32), s6)
/-- SteepleWordsModel.measureOf -/
def FX7_measureOf (b : Nat) (p0 : Int32) (p1 : Int32) (σ : qH) : Option (Int32 × qH) :=
  b1 (gC σ b 5) fun _ =>
  b1 (gR σ b 5 3) fun r1 =>
  b1 (FX7_isMeasure r1 p0 σ) fun v4 =>
  b1 ((
      if v4 = 0 then
        some (1 : Int32)
      else
        b1 (FX7_in (p1).toInt64 (0 : Int64) (10 : Int64) σ) fun v7 =>
        if v7 = 0 then
          some (2 : Int32)
        else
          some (0 : Int32)
    ) : Option (Int32)) fun x5 =>
  b2 (FX7_refused b x5 σ) fun v9 s10 =>
  if v9 = 0 then
    b1 ((
        if (7 : Int32) ≤ p1 then
          if p1 = (7 : Int32) then
            b1 (gR s10 b 5 3) fun r12 =>
            b1 (FX7_least r12 p0 s10) fun v15 =>
            some v15
          else
            if p1 = (8 : Int32) then
              b1 (gR s10 b 5 3) fun r16 =>
              b1 (FX7_greatest r16 p0 s10) fun v19 =>
              some v19
            else
              if p1 = (9 : Int32) then
                b1 (gR s10 b 5 3) fun r20 =>
                b1 (FX7_weight r20 p0 s10) fun v23 =>
                some v23
              else
                b1 (gR s10 b 5 3) fun r24 =>
                b1 (FX7_quarrelsOf r24 p0 s10) fun v27 =>
                some v27
        else
          b1 (gR s10 b 5 3) fun r28 =>
          b1 (FX7_of r28 p0 p1 s10) fun v31 =>
          some v31
      ) : Option (Int32)) fun x11 =>
    some (x11, s10)
  else
    some ((0 : Int32), s10)
/-- SteepleWordsModel.tellerOf -/
def FX7_tellerOf_L45 (a0 : Nat) (a1 : Int32) (a2 : Int32) (σ : qH) : Nat → Int32 → Int32 → Int32 → Option (Int32 × Int32)
  | 0, _, _, _ => none
  | q + 1, y3, y4, y5 =>
    b1 (gR σ a0 5 3) fun r9 =>
    b1 (aI σ r9 (0 : Int32)) fun v11 =>
    if v11 ≤ y5 then
      some (y3, y4)
    else
      b1 (gR σ a0 5 3) fun r13 =>
      b1 (FX7_of r13 y5 (1 : Int32) σ) fun v16 =>
      b1 ((
          if v16 = a1 then
            some (1 : Int32)
          else
            some (0 : Int32)
        ) : Option (Int32)) fun x17 =>
      b1 (gR σ a0 5 3) fun r18 =>
      b1 (FX7_of r18 y5 (1 : Int32) σ) fun v21 =>
      b1 ((
          if v21 = a1 then
            b1 (gR σ a0 5 3) fun r23 =>
            b1 (FX7_quarrelsOf r23 y5 σ) fun v26 =>
            some v26
          else
            some (0 : Int32)
        ) : Option (Int32)) fun x22 =>
      FX7_tellerOf_L45 a0 a1 a2 σ q (y3 + x17) (y4 + x22) (y5 + (1 : Int32))
def FX7_tellerOf (b : Nat) (p0 : Int32) (p1 : Int32) (σ : qH) : Option (Int32 × qH) :=
  b1 (gC σ b 5) fun _ =>
  b1 (FX7_isTeller p0 σ) fun v2 =>
  b1 ((
      if v2 = 0 then
        some (1 : Int32)
      else
        b1 (FX7_in (p1).toInt64 (0 : Int64) (4 : Int64) σ) fun v5 =>
        if v5 = 0 then
          some (2 : Int32)
        else
          some (0 : Int32)
    ) : Option (Int32)) fun x3 =>
  b2 (FX7_refused b x3 σ) fun v7 s8 =>
  if v7 = 0 then
    b2 (FX7_tellerOf_L45 b p0 p1 s8 qfuel (0 : Int32) (0 : Int32) (0 : Int32)) fun x29 x30 =>
    b1 ((
        if p1 = 0 then
          b1 (gR s8 b 5 3) fun r32 =>
          b1 (aI s8 r32 ((9 : Int32) + p0)) fun v34 =>
          some v34
        else
          if p1 = (1 : Int32) then
            some x29
          else
            if p1 = (2 : Int32) then
              b1 (gR s8 b 5 3) fun r36 =>
              b1 (aI s8 r36 ((15 : Int32) + p0)) fun v38 =>
              some v38
            else
              if p1 = (3 : Int32) then
                b1 (gR s8 b 5 3) fun r40 =>
                b1 (aI s8 r40 ((21 : Int32) + p0)) fun v42 =>
                some v42
              else
                some x30
      ) : Option (Int32)) fun x31 =>
    some (x31, s8)
  else
    some ((0 : Int32), s8)
/-- SteepleWordsModel.steepleOf -/
def FX7_steepleOf_L45 (a0 : Nat) (a1 : Int32) (a2 : Int32) (σ : qH) : Nat → Int32 → Int32 → Int32 → Option (Int32 × Int32)
  | 0, _, _, _ => none
  | q + 1, y3, y4, y5 =>
    b1 (gR σ a0 5 3) fun r9 =>
    b1 (aI σ r9 (0 : Int32)) fun v11 =>
    if v11 ≤ y5 then
      some (y3, y4)
    else
      b1 (gR σ a0 5 3) fun r13 =>
      b1 (FX7_of r13 y5 (0 : Int32) σ) fun v16 =>
      b1 ((
          if v16 = a1 then
            some (1 : Int32)
          else
            some (0 : Int32)
        ) : Option (Int32)) fun x17 =>
      b1 (gR σ a0 5 3) fun r18 =>
      b1 (FX7_of r18 y5 (0 : Int32) σ) fun v21 =>
      b1 ((
          if v21 = a1 then
            b1 (gR σ a0 5 3) fun r23 =>
            b1 (FX7_weight r23 y5 σ) fun v26 =>
            some v26
          else
            some (0 : Int32)
        ) : Option (Int32)) fun x22 =>
      FX7_steepleOf_L45 a0 a1 a2 σ q (y3 + x17) (y4 + x22) (y5 + (1 : Int32))
def FX7_steepleOf (b : Nat) (p0 : Int32) (p1 : Int32) (σ : qH) : Option (Int32 × qH) :=
  b1 (gC σ b 5) fun _ =>
  b1 (FX7_isSteeple p0 σ) fun v2 =>
  b1 ((
      if v2 = 0 then
        some (1 : Int32)
      else
        b1 (FX7_in (p1).toInt64 (0 : Int64) (2 : Int64) σ) fun v5 =>
        if v5 = 0 then
          some (2 : Int32)
        else
          some (0 : Int32)
    ) : Option (Int32)) fun x3 =>
  b2 (FX7_refused b x3 σ) fun v7 s8 =>
  if v7 = 0 then
    b2 (FX7_steepleOf_L45 b p0 p1 s8 qfuel (0 : Int32) (0 : Int32) (0 : Int32)) fun x29 x30 =>
    b1 ((
        if p1 = 0 then
          some x29
        else
          if p1 = (1 : Int32) then
            b1 (gR s8 b 5 3) fun r32 =>
            b1 (aI s8 r32 ((27 : Int32) + p0)) fun v34 =>
            some v34
          else
            some x30
      ) : Option (Int32)) fun x31 =>
    some (x31, s8)
  else
    some ((0 : Int32), s8)
/-- SteepleWordsModel.vote -/
def FX7_vote (b : Nat) (p0 : Int32) (p1 : Int32) (σ : qH) : Option (Int32 × qH) :=
  b1 (gC σ b 5) fun _ =>
  b1 (FX7_isSteeple p0 σ) fun v2 =>
  b1 ((
      if v2 = 0 then
        some (1 : Int32)
      else
        b1 (FX7_in (p1).toInt64 (1 : Int64) (999 : Int64) σ) fun v5 =>
        if v5 = 0 then
          some (2 : Int32)
        else
          some (0 : Int32)
    ) : Option (Int32)) fun x3 =>
  b2 (FX7_refused b x3 σ) fun v7 s8 =>
  if v7 = 0 then
    b1 (gR s8 b 5 3) fun r9 =>
    b1 (FX7_voteOf r9 p0 p1 s8) fun v12 =>
    some (v12, s8)
  else
    some ((0 : Int32), s8)
/-- SteepleWordsModel.best -/
def FX7_best (b : Nat) (p0 : Int32) (p1 : Int32) (p2 : Int32) (σ : qH) : Option (Int32 × qH) :=
  b1 (gC σ b 5) fun _ =>
  b1 (FX7_isSteeple p0 σ) fun v2 =>
  b1 ((
      if v2 = 0 then
        some (1 : Int32)
      else
        b1 (FX7_in (p1).toInt64 (0 : Int64) (2 : Int64) σ) fun v5 =>
        if v5 = 0 then
          some (2 : Int32)
        else
          b1 (FX7_in (p2).toInt64 (0 : Int64) (1 : Int64) σ) fun v7 =>
          if v7 = 0 then
            some (2 : Int32)
          else
            some (0 : Int32)
    ) : Option (Int32)) fun x3 =>
  b2 (FX7_refused b x3 σ) fun v9 s10 =>
  if v9 = 0 then
    b1 (gR s10 b 5 3) fun r11 =>
    b1 (FX7_bestOf r11 p0 p1 s10) fun v14 =>
    some (v14, s10)
  else
    some ((0 : Int32), s10)
/-- SteepleWordsModel.setting -/
def FX7_setting (b : Nat) (p0 : Int32) (σ : qH) : Option (Int32 × qH) :=
  b1 (gC σ b 5) fun _ =>
  b1 (FX7_in (p0).toInt64 (0 : Int64) (1 : Int64) σ) fun v2 =>
  b1 ((
      if v2 = 0 then
        some (1 : Int32)
      else
        some (0 : Int32)
    ) : Option (Int32)) fun x3 =>
  b2 (FX7_refused b x3 σ) fun v5 s6 =>
  if v5 = 0 then
    b1 (gR s6 b 5 3) fun r7 =>
    b1 (aI s6 r7 ((7 : Int32) + p0)) fun v9 =>
    some (v9, s6)
  else
    some ((0 : Int32), s6)
/-- SteepleWordsModel.remember -/
def FX7_remember_L11 (a0 : Nat) : Nat → Int32 → qH → Option (qH)
  | 0, _, _ => none
  | q + 1, y1, σ =>
    if (1846 : Int32) ≤ y1 then
      some σ
    else
      b1 (gR σ a0 5 5) fun r4 =>
      b1 (gR σ a0 5 5) fun r6 =>
      b1 (aI σ r6 (y1 + (142 : Int32))) fun v8 =>
      b1 (sI σ r4 y1 v8) fun s10 =>
      FX7_remember_L11 a0 q (y1 + (1 : Int32)) s10
def FX7_remember (b : Nat) (σ : qH) : Option (qH) :=
  b1 (gC σ b 5) fun _ =>
  b1 (gI σ b 5 6) fun v1 =>
  b1 ((
      if v1 = (14 : Int32) then
        b1 (FX7_remember_L11 b qfuel (0 : Int32) σ) fun s12 =>
        b1 (gI s12 b 5 6) fun v13 =>
        b1 (gP s12 b 5 6 (.int (v13 - (1 : Int32)))) fun s15 =>
        some s15
      else
        some σ
    ) : Option (qH)) fun s3 =>
  b1 (gR s3 b 5 3) fun r18 =>
  b1 (gR s3 b 5 5) fun r20 =>
  b1 (gI s3 b 5 6) fun v22 =>
  b1 (FX7_copyState r18 (0 : Int32) r20 ((142 : Int32) * v22) s3) fun s25 =>
  b1 (gI s25 b 5 6) fun v26 =>
  b1 (gP s25 b 5 6 (.int (v26 + (1 : Int32)))) fun s28 =>
  some s28
/-- SteepleWordsModel.measure -/
def FX7_measure (b : Nat) (p0 : Int32) (p1 : Int32) (p2 : Int32) (p3 : Int32) (p4 : Int32) (p5 : Int32) (p6 : Int32) (σ : qH) : Option (Int32 × qH) :=
  b1 (gC σ b 5) fun _ =>
  b1 (FX7_isSteeple p0 σ) fun v2 =>
  b1 ((
      if v2 = 0 then
        some (1 : Int32)
      else
        b1 (FX7_isTeller p1 σ) fun v5 =>
        if v5 = 0 then
          some (1 : Int32)
        else
          b1 (FX7_areFine p2 p3 p4 p5 p6 σ) fun v7 =>
          if v7 = 0 then
            some (2 : Int32)
          else
            b1 (gR σ b 5 3) fun r8 =>
            b1 (aI σ r8 (0 : Int32)) fun v10 =>
            if (16 : Int32) ≤ v10 then
              some (3 : Int32)
            else
              some (0 : Int32)
    ) : Option (Int32)) fun x3 =>
  b2 (FX7_refused b x3 σ) fun v13 s14 =>
  if v13 = 0 then
    b1 (FX7_remember b s14) fun s16 =>
    b1 (gR s16 b 5 3) fun r17 =>
    b2 (FX7_measureOn r17 p0 p1 p2 p3 p4 p5 p6 s16) fun v20 s21 =>
    some (v20, s21)
  else
    some ((0 : Int32), s14)
/-- SteepleWordsModel.drop -/
def FX7_drop (b : Nat) (p0 : Int32) (σ : qH) : Option (Int32 × qH) :=
  b1 (gC σ b 5) fun _ =>
  b1 (gR σ b 5 3) fun r1 =>
  b1 (FX7_isMeasure r1 p0 σ) fun v4 =>
  b1 ((
      if v4 = 0 then
        some (1 : Int32)
      else
        some (0 : Int32)
    ) : Option (Int32)) fun x5 =>
  b2 (FX7_refused b x5 σ) fun v7 s8 =>
  if v7 = 0 then
    b1 (FX7_remember b s8) fun s10 =>
    b1 (gR s10 b 5 3) fun r11 =>
    b2 (FX7_dropOn r11 p0 s10) fun v14 s15 =>
    some (v14, s15)
  else
    some ((0 : Int32), s8)
/-- SteepleWordsModel.trust -/
def FX7_trust (b : Nat) (p0 : Int32) (p1 : Int32) (σ : qH) : Option (Int32 × qH) :=
  b1 (gC σ b 5) fun _ =>
  b1 (FX7_isTeller p0 σ) fun v2 =>
  b1 ((
      if v2 = 0 then
        some (1 : Int32)
      else
        b1 (FX7_in (p1).toInt64 (0 : Int64) (9 : Int64) σ) fun v5 =>
        if v5 = 0 then
          some (2 : Int32)
        else
          some (0 : Int32)
    ) : Option (Int32)) fun x3 =>
  b2 (FX7_refused b x3 σ) fun v7 s8 =>
  if v7 = 0 then
    b1 (FX7_remember b s8) fun s10 =>
    b1 (gR s10 b 5 3) fun r11 =>
    b2 (FX7_trustOn r11 p0 p1 s10) fun v14 s15 =>
    some (v14, s15)
  else
    some ((0 : Int32), s8)
/-- SteepleWordsModel.evening -/
def FX7_evening (b : Nat) (σ : qH) : Option (Int32 × qH) :=
  b1 (gC σ b 5) fun _ =>
  b1 (gP σ b 5 0 (.int (0 : Int32))) fun s1 =>
  b1 (FX7_remember b s1) fun s4 =>
  b1 (gR s4 b 5 3) fun r5 =>
  b2 (FX7_eveningOn r5 s4) fun v8 s9 =>
  some (v8, s9)
/-- SteepleWordsModel.survey -/
def FX7_survey (b : Nat) (p0 : Int32) (p1 : Int32) (σ : qH) : Option (Int32 × qH) :=
  b1 (gC σ b 5) fun _ =>
  b1 (FX7_isSteeple p0 σ) fun v2 =>
  b1 ((
      if v2 = 0 then
        some (1 : Int32)
      else
        b1 (FX7_in (p1).toInt64 (1 : Int64) (999 : Int64) σ) fun v5 =>
        if v5 = 0 then
          some (2 : Int32)
        else
          some (0 : Int32)
    ) : Option (Int32)) fun x3 =>
  b2 (FX7_refused b x3 σ) fun v7 s8 =>
  if v7 = 0 then
    b1 (FX7_remember b s8) fun s10 =>
    b1 (gR s10 b 5 3) fun r11 =>
    b2 (FX7_surveyOn r11 p0 p1 s10) fun v14 s15 =>
    some (v14, s15)
  else
    some ((0 : Int32), s8)
/-- SteepleWordsModel.set -/
def FX7_set (b : Nat) (p0 : Int32) (p1 : Int32) (σ : qH) : Option (Int32 × qH) :=
  b1 (gC σ b 5) fun _ =>
  b1 (FX7_isSetting p0 p1 σ) fun v2 =>
  b1 ((
      if v2 = 0 then
        some (1 : Int32)
      else
        some (0 : Int32)
    ) : Option (Int32)) fun x3 =>
  b2 (FX7_refused b x3 σ) fun v5 s6 =>
  if v5 = 0 then
    b1 (FX7_remember b s6) fun s8 =>
    b1 (gR s8 b 5 3) fun r9 =>
    b2 (FX7_change r9 p0 p1 s8) fun v12 s13 =>
    some (v12, s13)
  else
    some ((0 : Int32), s6)
/-- SteepleWordsModel.undo -/
def FX7_undo (b : Nat) (σ : qH) : Option (Int32 × qH) :=
  b1 (gC σ b 5) fun _ =>
  b1 (gI σ b 5 6) fun v1 =>
  b1 ((
      if v1 = 0 then
        some (1 : Int32)
      else
        some (0 : Int32)
    ) : Option (Int32)) fun x3 =>
  b2 (FX7_refused b x3 σ) fun v5 s6 =>
  if v5 = 0 then
    b1 (gI s6 b 5 6) fun v7 =>
    b1 (gP s6 b 5 6 (.int (v7 - (1 : Int32)))) fun s9 =>
    b1 (gR s9 b 5 5) fun r11 =>
    b1 (gI s9 b 5 6) fun v13 =>
    b1 (gR s9 b 5 3) fun r15 =>
    b1 (FX7_copyState r11 ((142 : Int32) * v13) r15 (0 : Int32) s9) fun s18 =>
    b1 (gI s18 b 5 6) fun v19 =>
    some (v19, s18)
  else
    some ((0 : Int32), s6)
/-- SteepleWordsModel.apart -/
def FX7_apart (b : Nat) (p0 : Int32) (p1 : Int32) (σ : qH) : Option (Int32 × qH) :=
  b1 (gC σ b 5) fun _ =>
  b1 (gR σ b 5 3) fun r1 =>
  b1 (FX7_isMeasure r1 p0 σ) fun v4 =>
  b1 ((
      if v4 = 0 then
        some (1 : Int32)
      else
        b1 (gR σ b 5 3) fun r6 =>
        b1 (FX7_isMeasure r6 p1 σ) fun v9 =>
        if v9 = 0 then
          some (1 : Int32)
        else
          some (0 : Int32)
    ) : Option (Int32)) fun x5 =>
  b2 (FX7_refused b x5 σ) fun v11 s12 =>
  if v11 = 0 then
    b1 (gR s12 b 5 3) fun r13 =>
    b1 (FX7_of r13 p0 (0 : Int32) s12) fun v16 =>
    b1 (gR s12 b 5 3) fun r17 =>
    b1 (FX7_of r17 p1 (0 : Int32) s12) fun v20 =>
    b1 ((
        if v16 = v20 then
          b1 (gR s12 b 5 3) fun r22 =>
          b1 (FX7_gap r22 p0 p1 s12) fun v25 =>
          some v25
        else
          some (-1 : Int32)
      ) : Option (Int32)) fun x21 =>
    some (x21, s12)
  else
    some ((0 : Int32), s12)
/-- SteepleWordsModel.away -/
def FX7_away (p0 : Nat) (p1 : Int32) (p2 : Int32) (σ : qH) : Option (Int32) :=
  b1 (FX7_least p0 p1 σ) fun v2 =>
  b1 ((
      if v2 ≤ p2 then
        b1 (FX7_greatest p0 p1 σ) fun v5 =>
        if p2 ≤ v5 then
          some (0 : Int32)
        else
          b1 (FX7_greatest p0 p1 σ) fun v7 =>
          some (p2 - v7)
      else
        b1 (FX7_least p0 p1 σ) fun v9 =>
        some (v9 - p2)
    ) : Option (Int32)) fun x3 =>
  some x3
/-- SteepleWordsModel.against -/
def FX7_against_L35 (a0 : Nat) (a1 : Int32) (a2 : Int32) (σ : qH) : Nat → Int32 → Int32 → Option (Int32)
  | 0, _, _ => none
  | q + 1, y3, y4 =>
    b1 (gR σ a0 5 3) fun r11 =>
    b1 (aI σ r11 (0 : Int32)) fun v13 =>
    if v13 ≤ y4 then
      some y3
    else
      b1 (gR σ a0 5 3) fun r15 =>
      b1 (FX7_of r15 y4 (0 : Int32) σ) fun v18 =>
      b1 ((
          if v18 = a1 then
            b1 (gR σ a0 5 3) fun r20 =>
            b1 (FX7_tells r20 y4 a2 σ) fun v23 =>
            if v23 = 0 then
              b1 ((
                  if y3 = (-1 : Int32) then
                    some (1 : Int32)
                  else
                    b1 (gR σ a0 5 3) fun r25 =>
                    b1 (FX7_weight r25 y4 σ) fun v28 =>
                    b1 (gR σ a0 5 3) fun r29 =>
                    b1 (FX7_weight r29 y3 σ) fun v32 =>
                    some (v28 - v32)
                ) : Option (Int32)) fun x24 =>
              b1 ((
                  if 0 < x24 then
                    some y4
                  else
                    if x24 = 0 then
                      b1 (gR σ a0 5 3) fun r34 =>
                      b1 (FX7_away r34 y4 a2 σ) fun v37 =>
                      b1 (gR σ a0 5 3) fun r38 =>
                      b1 (FX7_away r38 y3 a2 σ) fun v41 =>
                      if v37 ≤ v41 then
                        some y3
                      else
                        some y4
                    else
                      some y3
                ) : Option (Int32)) fun x33 =>
              some x33
            else
              some y3
          else
            some y3
        ) : Option (Int32)) fun x19 =>
      FX7_against_L35 a0 a1 a2 σ q x19 (y4 + (1 : Int32))
def FX7_against (b : Nat) (p0 : Int32) (σ : qH) : Option (Int32 × qH) :=
  b1 (gC σ b 5) fun _ =>
  b1 (FX7_isSteeple p0 σ) fun v2 =>
  b1 ((
      if v2 = 0 then
        some (1 : Int32)
      else
        some (0 : Int32)
    ) : Option (Int32)) fun x3 =>
  b2 (FX7_refused b x3 σ) fun v5 s6 =>
  if v5 = 0 then
    b1 (gR s6 b 5 3) fun r7 =>
    b1 (FX7_lowestBest r7 p0 s6) fun v10 =>
    b1 (FX7_against_L35 b p0 v10 s6 qfuel (-1 : Int32) (0 : Int32)) fun x45 =>
    some (x45, s6)
  else
    some ((0 : Int32), s6)
/-- SteepleWordsModel.without -/
def FX7_without (b : Nat) (p0 : Int32) (p1 : Int32) (σ : qH) : Option (Int32 × qH) :=
  b1 (gC σ b 5) fun _ =>
  b1 (gR σ b 5 3) fun r1 =>
  b1 (FX7_isMeasure r1 p0 σ) fun v4 =>
  b1 ((
      if v4 = 0 then
        some (1 : Int32)
      else
        b1 (FX7_in (p1).toInt64 (0 : Int64) (2 : Int64) σ) fun v7 =>
        if v7 = 0 then
          some (2 : Int32)
        else
          some (0 : Int32)
    ) : Option (Int32)) fun x5 =>
  b2 (FX7_refused b x5 σ) fun v9 s10 =>
  if v9 = 0 then
    b1 (gR s10 b 5 3) fun r11 =>
    b1 (FX7_of r11 p0 (0 : Int32) s10) fun v14 =>
    b1 (gR s10 b 5 3) fun r15 =>
    b1 (gR s10 b 5 4) fun r17 =>
    b1 (FX7_copyState r15 (0 : Int32) r17 (0 : Int32) s10) fun s20 =>
    b1 (gR s20 b 5 4) fun r21 =>
    b2 (FX7_dropOn r21 p0 s20) fun v24 s25 =>
    b1 (gR s25 b 5 4) fun r26 =>
    b1 (FX7_bestOf r26 v14 p1 s25) fun v29 =>
    some (v29, s25)
  else
    some ((0 : Int32), s10)
/-- SteepleWordsModel.isTold -/
def FX7_isTold_L12 (a0 : Nat) (a1 : Int32) (a2 : Int32) (a3 : Int32) (σ : qH) : Nat → Int32 → Int32 → Option (Int32)
  | 0, _, _ => none
  | q + 1, y4, y5 =>
    b1 (aI σ a0 (0 : Int32)) fun v3 =>
    if v3 ≤ y5 then
      some y4
    else
      b1 ((
          if y4 = 0 then
            b1 (FX7_of a0 y5 (0 : Int32) σ) fun v7 =>
            if v7 = a2 then
              b1 (FX7_of a0 y5 (1 : Int32) σ) fun v9 =>
              if v9 = a1 then
                b1 (FX7_tells a0 y5 a3 σ) fun v11 =>
                if v11 = 0 then
                  some (0 : Int32)
                else
                  some (1 : Int32)
              else
                some (0 : Int32)
            else
              some (0 : Int32)
          else
            some (1 : Int32)
        ) : Option (Int32)) fun x5 =>
      FX7_isTold_L12 a0 a1 a2 a3 σ q x5 (y5 + (1 : Int32))
def FX7_isTold (p0 : Nat) (p1 : Int32) (p2 : Int32) (σ : qH) : Option (Int32) :=
  b1 (FX7_lowestBest p0 p2 σ) fun v2 =>
  b1 (FX7_isTold_L12 p0 p1 p2 v2 σ qfuel (0 : Int32) (0 : Int32)) fun x13 =>
  if x13 = 0 ∨ x13 = 1 then
    some x13
  else none
/-- SteepleWordsModel.swings -/
def FX7_swings_L43 (a0 : Nat) (a1 : Int32) (a2 : Int32) : Nat → Int32 → qH → Option (Int32 × qH)
  | 0, _, _ => none
  | q + 1, y3, σ =>
    if (9 : Int32) < y3 then
      some ((-1 : Int32), σ)
    else
      b1 (gR σ a0 5 4) fun r15 =>
      b2 (FX7_trustOn r15 a1 y3 σ) fun v18 s19 =>
      b1 (gR s19 a0 5 4) fun r20 =>
      b1 (FX7_isTold r20 a1 a2 s19) fun v23 =>
      if v23 = 0 then
        FX7_swings_L43 a0 a1 a2 q (y3 + (1 : Int32)) s19
      else
        some (y3, s19)
def FX7_swings (b : Nat) (p0 : Int32) (p1 : Int32) (σ : qH) : Option (Int32 × qH) :=
  b1 (gC σ b 5) fun _ =>
  b1 (FX7_isTeller p0 σ) fun v2 =>
  b1 ((
      if v2 = 0 then
        some (1 : Int32)
      else
        b1 (FX7_isSteeple p1 σ) fun v5 =>
        if v5 = 0 then
          some (1 : Int32)
        else
          some (0 : Int32)
    ) : Option (Int32)) fun x3 =>
  b2 (FX7_refused b x3 σ) fun v7 s8 =>
  if v7 = 0 then
    b1 (gR s8 b 5 3) fun r9 =>
    b1 (gR s8 b 5 4) fun r11 =>
    b1 (FX7_copyState r9 (0 : Int32) r11 (0 : Int32) s8) fun s14 =>
    FX7_swings_L43 b p0 p1 qfuel (0 : Int32) s14
  else
    some ((0 : Int32), s8)
/-- SteepleWordsModel.truest -/
def FX7_truest_L9 (a0 : Nat) (σ : qH) : Nat → Int32 → Int32 → Option (Int32)
  | 0, _, _ => none
  | q + 1, y1, y2 =>
    if (6 : Int32) ≤ y2 then
      some y1
    else
      b1 (gR σ a0 5 3) fun r3 =>
      b1 (aI σ r3 ((15 : Int32) + y2)) fun v5 =>
      b1 (gR σ a0 5 3) fun r7 =>
      b1 (aI σ r7 ((21 : Int32) + y2)) fun v9 =>
      b1 ((
          if (v5 + v9) ≤ 0 then
            some y1
          else
            b1 ((
                if y1 = (-1 : Int32) then
                  some (0 : Int32)
                else
                  b1 (gR σ a0 5 3) fun r13 =>
                  b1 (aI σ r13 ((15 : Int32) + y1)) fun v15 =>
                  b1 (gR σ a0 5 3) fun r17 =>
                  b1 (aI σ r17 ((21 : Int32) + y1)) fun v19 =>
                  some (v15 + v19)
              ) : Option (Int32)) fun x12 =>
            b1 ((
                if y1 = (-1 : Int32) then
                  some (1 : Int32)
                else
                  b1 (gR σ a0 5 3) fun r22 =>
                  b1 (aI σ r22 ((15 : Int32) + y2)) fun v24 =>
                  b1 (gR σ a0 5 3) fun r26 =>
                  b1 (aI σ r26 ((15 : Int32) + y1)) fun v28 =>
                  some ((v24 * x12) - (v28 * (v5 + v9)))
              ) : Option (Int32)) fun x21 =>
            b1 ((
                if 0 < x21 then
                  some y2
                else
                  if x21 = 0 then
                    if (v5 + v9) ≤ x12 then
                      some y1
                    else
                      some y2
                  else
                    some y1
              ) : Option (Int32)) fun x30 =>
            some x30
        ) : Option (Int32)) fun x11 =>
      FX7_truest_L9 a0 σ q x11 (y2 + (1 : Int32))
def FX7_truest (b : Nat) (σ : qH) : Option (Int32 × qH) :=
  b1 (gC σ b 5) fun _ =>
  b1 (gP σ b 5 0 (.int (0 : Int32))) fun s1 =>
  b1 (FX7_truest_L9 b s1 qfuel (-1 : Int32) (0 : Int32)) fun x35 =>
  some (x35, s1)
/-- SteepleWordsModel.commandSteeple -/
def FX7_commandSteeple (b : Nat) (p0 : Int32) (p1 : Int32) (p2 : Int32) (p3 : Int32) (σ : qH) : Option (Int32 × qH) :=
  b1 (gC σ b 5) fun _ =>
  if p0 = (1 : Int32) then
    b1 (FX7_isTeller p2 σ) fun v2 =>
    b2 ((
        if v2 = 0 then
          some ((0 : Int32), σ)
        else
          if p3 ≤ 0 then
            some ((0 : Int32), σ)
          else
            b1 (gR σ b 5 4) fun r5 =>
            b1 (aI σ r5 (0 : Int32)) fun v7 =>
            if (16 : Int32) ≤ v7 then
              some ((0 : Int32), σ)
            else
              b1 (gR σ b 5 4) fun r9 =>
              b2 (FX7_measureOn r9 p1 p2 (2 : Int32) p3 p3 (0 : Int32) (0 : Int32) σ) fun v12 s13 =>
              if v12 < 0 then
                some ((0 : Int32), s13)
              else
                some ((1 : Int32), s13)
      ) : Option (Int32 × qH)) fun x3 s4 =>
    if x3 = 0 ∨ x3 = 1 then
      some (x3, s4)
    else none
  else
  if p0 = (5 : Int32) then
    b2 ((
        if p2 = 0 then
          if p3 ≤ 0 then
            some ((0 : Int32), σ)
          else
            b1 (gR σ b 5 4) fun r18 =>
            b2 (FX7_surveyOn r18 p1 p3 σ) fun v21 s22 =>
            if v21 < 0 then
              some ((0 : Int32), s22)
            else
              some ((1 : Int32), s22)
        else
          some ((0 : Int32), σ)
      ) : Option (Int32 × qH)) fun x16 s17 =>
    if x16 = 0 ∨ x16 = 1 then
      some (x16, s17)
    else none
  else
  if p0 = (6 : Int32) then
    b1 ((
        if p2 = 0 then
          b1 (gR σ b 5 4) fun r26 =>
          b1 (FX7_lowestBest r26 p1 σ) fun v29 =>
          if p3 < v29 then
            some (0 : Int32)
          else
            some (1 : Int32)
        else
          some (0 : Int32)
      ) : Option (Int32)) fun x25 =>
    if x25 = 0 ∨ x25 = 1 then
      some (x25, σ)
    else none
  else
  b1 ((
      if (irm p3 (100 : Int32)) = 0 then
        b1 (gR σ b 5 4) fun r33 =>
        b1 (FX7_bestOf r33 p1 (2 : Int32) σ) fun v36 =>
        if v36 < (((10 : Int32) * p2) + (p3 / (100 : Int32))) then
          some (0 : Int32)
        else
          some (1 : Int32)
      else
        some (0 : Int32)
    ) : Option (Int32)) fun x32 =>
  if x32 = 0 ∨ x32 = 1 then
    some (x32, σ)
  else none
/-- SteepleWordsModel.command -/
def FX7_command_L182 (a0 : Nat) (a2 : Int32) : Nat → Int32 → qH → Option (qH)
  | 0, _, _ => none
  | q + 1, y5, σ =>
    if a2 ≤ y5 then
      some σ
    else
      if (10 : Int32) ≤ a2 then
        some σ
      else
        b1 (gR σ a0 5 4) fun r34 =>
        b2 (FX7_eveningOn r34 σ) fun v37 s38 =>
        FX7_command_L182 a0 a2 q (y5 + (1 : Int32)) s38
def FX7_command (b : Nat) (p0 : Int32) (p1 : Int32) (σ : qH) : Option (Int32 × qH) :=
  b1 (gC σ b 5) fun _ =>
  if p0 = (1 : Int32) ∨ p0 = (5 : Int32) ∨ p0 = (6 : Int32) ∨ p0 = (7 : Int32) then
    b1 (FX7_isSteeple (p1 / (10000 : Int32)) σ) fun v2 =>
    b2 ((
        if v2 = 0 then
          some ((0 : Int32), σ)
        else
          b2 (FX7_commandSteeple b p0 (p1 / (10000 : Int32)) (irm (p1 / (1000 : Int32)) (10 : Int32)) (irm p1 (1000 : Int32)) σ) fun v6 s7 =>
          if v6 = 0 then
            some ((0 : Int32), s7)
          else
            some ((1 : Int32), s7)
      ) : Option (Int32 × qH)) fun x3 s4 =>
    if x3 = 0 ∨ x3 = 1 then
      some (x3, s4)
    else none
  else
  if p0 = (2 : Int32) then
    b2 ((
        if (irm p1 (1000 : Int32)) = 0 then
          b1 (gR σ b 5 4) fun r12 =>
          b1 (FX7_isMeasure r12 (p1 / (1000 : Int32)) σ) fun v15 =>
          if v15 = 0 then
            some ((0 : Int32), σ)
          else
            b1 (gR σ b 5 4) fun r16 =>
            b2 (FX7_dropOn r16 (p1 / (1000 : Int32)) σ) fun v19 s20 =>
            if v19 < 0 then
              some ((0 : Int32), s20)
            else
              some ((1 : Int32), s20)
        else
          some ((0 : Int32), σ)
      ) : Option (Int32 × qH)) fun x10 s11 =>
    if x10 = 0 ∨ x10 = 1 then
      some (x10, s11)
    else none
  else
  if p0 = (3 : Int32) then
    b2 ((
        if (10 : Int32) ≤ (irm p1 (10000 : Int32)) then
          some ((0 : Int32), σ)
        else
          b1 (FX7_isTeller (p1 / (10000 : Int32)) σ) fun v26 =>
          if v26 = 0 then
            some ((0 : Int32), σ)
          else
            b1 (gR σ b 5 4) fun r27 =>
            b2 (FX7_trustOn r27 (p1 / (10000 : Int32)) (irm p1 (10 : Int32)) σ) fun v30 s31 =>
            if v30 < 0 then
              some ((0 : Int32), s31)
            else
              some ((1 : Int32), s31)
      ) : Option (Int32 × qH)) fun x23 s24 =>
    if x23 = 0 ∨ x23 = 1 then
      some (x23, s24)
    else none
  else
  if p0 = (4 : Int32) then
    b1 (FX7_command_L182 b p1 qfuel (0 : Int32) σ) fun s39 =>
    b1 ((
        if (10 : Int32) ≤ p1 then
          some (0 : Int32)
        else
          some (1 : Int32)
      ) : Option (Int32)) fun x40 =>
    if x40 = 0 ∨ x40 = 1 then
      some (x40, s39)
    else none
  else
  if p0 = (8 : Int32) then
    b1 ((
        if (10 : Int32) ≤ (irm p1 (10000 : Int32)) then
          some (0 : Int32)
        else
          b1 (FX7_isTeller (p1 / (10000 : Int32)) σ) fun v46 =>
          if v46 = 0 then
            some (0 : Int32)
          else
            b1 (gR σ b 5 4) fun r47 =>
            b1 (aI σ r47 ((9 : Int32) + (p1 / (10000 : Int32)))) fun v49 =>
            if v49 < (irm p1 (10 : Int32)) then
              some (0 : Int32)
            else
              some (1 : Int32)
      ) : Option (Int32)) fun x44 =>
    if x44 = 0 ∨ x44 = 1 then
      some (x44, σ)
    else none
  else
  if p0 = (9 : Int32) then
    b1 ((
        if (100 : Int32) ≤ p1 then
          some (0 : Int32)
        else
          b1 (gR σ b 5 4) fun r54 =>
          b1 (FX7_pairs r54 (0 : Int32) σ) fun v57 =>
          if p1 < v57 then
            some (0 : Int32)
          else
            some (1 : Int32)
      ) : Option (Int32)) fun x53 =>
    if x53 = 0 ∨ x53 = 1 then
      some (x53, σ)
    else none
  else
  some ((0 : Int32), σ)
/-- SteepleWordsModel.runScript -/
def FX7_runScript_L6 (a0 : Nat) (a1 : Int32) (a2 : Int64) (σ : qH) : Nat → Int64 → Int32 → Option (Int64)
  | 0, _, _ => none
  | q + 1, y4, y6 =>
    if a1 ≤ y6 then
      some y4
    else
      if (3 : Int32) ≤ y6 then
        some y4
      else
        FX7_runScript_L6 a0 a1 a2 σ q (y4 * (1000000 : Int64)) (y6 + (1 : Int32))
def FX7_runScript_L86 (a0 : Nat) (a1 : Int32) (a2 : Int64) : Nat → Int64 → Int32 → qH → Option (Int32 × qH)
  | 0, _, _, _ => none
  | q + 1, y4, y6, σ =>
    if a1 ≤ y6 then
      some ((-1 : Int32), σ)
    else
      if (y4 / (1000000 : Int64)) = 0 then none else
      b2 (FX7_command a0 (((lrm (a2 / (y4 / (1000000 : Int64))) (1000000 : Int64))).toInt32 / (100000 : Int32)) (irm ((lrm (a2 / (y4 / (1000000 : Int64))) (1000000 : Int64))).toInt32 (100000 : Int32)) σ) fun v18 s19 =>
      if v18 = 0 then
        some (y6, s19)
      else
        FX7_runScript_L86 a0 a1 a2 q (y4 / (1000000 : Int64)) (y6 + (1 : Int32)) s19
def FX7_runScript (b : Nat) (p0 : Int32) (p1 : Int64) (σ : qH) : Option (Int32 × qH) :=
  b1 (gC σ b 5) fun _ =>
  b1 (FX7_runScript_L6 b p0 p1 σ qfuel (1 : Int64) (0 : Int32)) fun x1 =>
  b1 (FX7_in (p0).toInt64 (1 : Int64) (3 : Int64) σ) fun v3 =>
  b1 ((
      if v3 = 0 then
        some (1 : Int32)
      else
        b1 (FX7_in p1 (0 : Int64) (x1 - (1 : Int64)) σ) fun v6 =>
        if v6 = 0 then
          some (1 : Int32)
        else
          some (0 : Int32)
    ) : Option (Int32)) fun x4 =>
  b2 (FX7_refused b x4 σ) fun v8 s9 =>
  if v8 = 0 then
    b1 (gR s9 b 5 3) fun r10 =>
    b1 (gR s9 b 5 4) fun r12 =>
    b1 (FX7_copyState r10 (0 : Int32) r12 (0 : Int32) s9) fun s15 =>
    FX7_runScript_L86 b p0 p1 qfuel x1 (0 : Int32) s15
  else
    some ((0 : Int32), s9)
/-- SteepleWordsModel.turnOf -/
def FX7_turnOf (p0 : Nat) (p1 : Int32) (p2 : Int32) (σ : qH) : Option (qH) :=
  b1 ((
      if (9 : Int32) ≤ p1 then
        if p1 = (9 : Int32) then
          b1 (FX7_isMeasure p0 (irm p2 (16 : Int32)) σ) fun v3 =>
          if v3 = 0 then
            some σ
          else
            b2 (FX7_dropOn p0 (irm p2 (16 : Int32)) σ) fun v5 s6 =>
            some s6
        else
          if (13 : Int32) ≤ p1 then
            if p1 ≤ (13 : Int32) then
              if (irm (p2 / (8 : Int32)) (2 : Int32)) = 0 then
                b2 (FX7_change p0 (0 : Int32) (irm p2 (6 : Int32)) σ) fun v8 s9 =>
                some s9
              else
                b2 (FX7_change p0 (1 : Int32) (irm (p2 / (16 : Int32)) (51 : Int32)) σ) fun v11 s12 =>
                some s12
            else
              b2 (FX7_surveyOn p0 (irm p2 (3 : Int32)) ((1 : Int32) + (irm (p2 / (32 : Int32)) (999 : Int32))) σ) fun v14 s15 =>
              some s15
          else
            b2 (FX7_eveningOn p0 σ) fun v17 s18 =>
            some s18
      else
        b1 ((
            if (4 : Int32) ≤ p1 then
              if (6 : Int32) ≤ p1 then
                some ((1 : Int32) + (irm (p2 / (32 : Int32)) (900 : Int32)))
              else
                some ((1 : Int32) + (irm (p2 / (32 : Int32)) (9 : Int32)))
            else
              some ((1 : Int32) + (irm (p2 / (32 : Int32)) (20 : Int32)))
          ) : Option (Int32)) fun x19 =>
        b1 ((
            if (4 : Int32) ≤ p1 then
              if (6 : Int32) ≤ p1 then
                some (x19 + (irm (p2 / (256 : Int32)) (90 : Int32)))
              else
                some ((1 : Int32) + (irm (p2 / (288 : Int32)) (60 : Int32)))
            else
              some ((1 : Int32) + (irm (p2 / (640 : Int32)) (40 : Int32)))
          ) : Option (Int32)) fun x20 =>
        b1 (aI σ p0 (0 : Int32)) fun v21 =>
        b1 ((
            if (16 : Int32) ≤ v21 then
              some σ
            else
              b1 ((
                  if (4 : Int32) ≤ p1 then
                    if (6 : Int32) ≤ p1 then
                      some (2 : Int32)
                    else
                      some (1 : Int32)
                  else
                    some (0 : Int32)
                ) : Option (Int32)) fun x24 =>
              b1 ((
                  if (6 : Int32) ≤ p1 then
                    some (0 : Int32)
                  else
                    some ((1 : Int32) + (irm (p2 / (256 : Int32)) (400 : Int32)))
                ) : Option (Int32)) fun x25 =>
              b1 ((
                  if (6 : Int32) ≤ p1 then
                    some (0 : Int32)
                  else
                    some (irm (p2 / (8 : Int32)) (21 : Int32))
                ) : Option (Int32)) fun x26 =>
              b2 (FX7_measureOn p0 (irm p2 (3 : Int32)) (irm (p2 / (4 : Int32)) (6 : Int32)) x24 x19 x20 x25 x26 σ) fun v28 s29 =>
              some s29
          ) : Option (qH)) fun s23 =>
        some s23
    ) : Option (qH)) fun s1 =>
  some s1
/-- SteepleWordsModel.simulate -/
def FX7_simulate_L45 (a0 : Nat) (a3 : Int32) : Nat → Int64 → Int32 → qH → Option (qH)
  | 0, _, _, _ => none
  | q + 1, y4, y6, σ =>
    if a3 ≤ y6 then
      some σ
    else
      b1 (gR σ a0 5 4) fun r13 =>
      b1 (FX7_turnOf r13 (irm ((lus ((y4 * (6364136223846793005 : Int64)) + (1442695040888963407 : Int64)) (33 : Int32))).toInt32 (16 : Int32)) (((lus ((y4 * (6364136223846793005 : Int64)) + (1442695040888963407 : Int64)) (33 : Int32))).toInt32 / (16 : Int32)) σ) fun s16 =>
      FX7_simulate_L45 a0 a3 q ((y4 * (6364136223846793005 : Int64)) + (1442695040888963407 : Int64)) (y6 + (1 : Int32)) s16
def FX7_simulate (b : Nat) (p0 : Int64) (p1 : Int32) (σ : qH) : Option (Int32 × qH) :=
  b1 (gC σ b 5) fun _ =>
  b1 (FX7_in (p1).toInt64 (1 : Int64) (60 : Int64) σ) fun v2 =>
  b1 ((
      if v2 = 0 then
        some (1 : Int32)
      else
        some (0 : Int32)
    ) : Option (Int32)) fun x3 =>
  b2 (FX7_refused b x3 σ) fun v5 s6 =>
  if v5 = 0 then
    b1 (gR s6 b 5 3) fun r7 =>
    b1 (gR s6 b 5 4) fun r9 =>
    b1 (FX7_copyState r7 (0 : Int32) r9 (0 : Int32) s6) fun s12 =>
    b1 (FX7_simulate_L45 b p1 qfuel p0 (0 : Int32) s12) fun s17 =>
    b1 (gR s17 b 5 4) fun r18 =>
    b1 (aI s17 r18 (0 : Int32)) fun v20 =>
    b1 (gR s17 b 5 4) fun r22 =>
    b1 (FX7_allTrust r22 s17) fun v25 =>
    b1 (gR s17 b 5 4) fun r26 =>
    b1 (aI s17 r26 (5 : Int32)) fun v28 =>
    b1 (gR s17 b 5 3) fun r30 =>
    b1 (aI s17 r30 (5 : Int32)) fun v32 =>
    some (((((10000 : Int32) * v20) + ((100 : Int32) * v25)) + (irm (v28 - v32) (100 : Int32))), s17)
  else
    some ((0 : Int32), s6)
/-- SteepleWordsModel.save -/
def FX7_save (b : Nat) (p0 : Int32) (σ : qH) : Option (Int32 × qH) :=
  b1 (gC σ b 5) fun _ =>
  b1 (FX7_in (p0).toInt64 (0 : Int64) (1 : Int64) σ) fun v2 =>
  b1 ((
      if v2 = 0 then
        some (1 : Int32)
      else
        some (0 : Int32)
    ) : Option (Int32)) fun x3 =>
  b2 (FX7_refused b x3 σ) fun v5 s6 =>
  if v5 = 0 then
    b1 (gR s6 b 5 3) fun r7 =>
    b1 (gR s6 b 5 7) fun r9 =>
    b1 (FX7_copyState r7 (0 : Int32) r9 ((142 : Int32) * p0) s6) fun s12 =>
    b1 (gR s12 b 5 8) fun r13 =>
    b1 (sZ s12 r13 p0 (1 : Int32)) fun s15 =>
    b1 (gR s15 b 5 3) fun r17 =>
    b1 (aI s15 r17 (0 : Int32)) fun v19 =>
    some (v19, s15)
  else
    some ((0 : Int32), s6)
/-- SteepleWordsModel.restore -/
def FX7_restore (b : Nat) (p0 : Int32) (σ : qH) : Option (Int32 × qH) :=
  b1 (gC σ b 5) fun _ =>
  b1 (FX7_in (p0).toInt64 (0 : Int64) (1 : Int64) σ) fun v2 =>
  b1 ((
      if v2 = 0 then
        some (1 : Int32)
      else
        b1 (gR σ b 5 8) fun r4 =>
        b1 (aZ σ r4 p0) fun v6 =>
        if v6 = 0 then
          some (2 : Int32)
        else
          some (0 : Int32)
    ) : Option (Int32)) fun x3 =>
  b2 (FX7_refused b x3 σ) fun v9 s10 =>
  if v9 = 0 then
    b1 (gR s10 b 5 7) fun r11 =>
    b1 (gR s10 b 5 3) fun r13 =>
    b1 (FX7_copyState r11 ((142 : Int32) * p0) r13 (0 : Int32) s10) fun s16 =>
    b1 (gP s16 b 5 6 (.int (0 : Int32))) fun s17 =>
    b1 (gR s17 b 5 3) fun r19 =>
    b1 (aI s17 r19 (0 : Int32)) fun v21 =>
    some (v21, s17)
  else
    some ((0 : Int32), s10)
/-- SteepleWords$Parish.<init> -/
def FX2_init (b : Nat) (σ : qH) (n0 : Nat) : Option (qH) :=
  b1 (some (qU σ n0 (.inl (0, (144, .inl (fun _ => 0)))))) fun s1 =>
  b1 (gP s1 b 2 0 (.ref n0)) fun s3 =>
  b1 (some (qU s3 (n0 + 1) (.inl (0, (6, .inl (fun _ => 0)))))) fun s5 =>
  b1 (gP s5 b 2 1 (.ref (n0 + 1))) fun s7 =>
  b1 (some (qU s7 (n0 + 2) (.inl (0, (6, .inl (fun _ => 0)))))) fun s9 =>
  b1 (gP s9 b 2 2 (.ref (n0 + 2))) fun s11 =>
  b1 (some (qU s11 (n0 + 3) (.inl (0, (6, .inl (fun _ => 0)))))) fun s13 =>
  b1 (gP s13 b 2 3 (.ref (n0 + 3))) fun s15 =>
  b1 (some (qU s15 (n0 + 4) (.inl (0, (3, .inl (fun _ => 0)))))) fun s17 =>
  b1 (gP s17 b 2 4 (.ref (n0 + 4))) fun s19 =>
  b1 (some (qU s19 (n0 + 5) (.inl (0, (2, .inl (fun _ => 0)))))) fun s21 =>
  b1 (gP s21 b 2 5 (.ref (n0 + 5))) fun s23 =>
  b1 (FX2_makeNew b s23) fun s26 =>
  some s26
/-- SteepleWords$Ballot.<init> -/
def FX0_init (b : Nat) (σ : qH) (n0 : Nat) : Option (qH) :=
  b1 (some (qU σ n0 (.inl (0, (1001, .inl (fun _ => 0)))))) fun s1 =>
  b1 (gP s1 b 0 0 (.ref n0)) fun s3 =>
  some s3
/-- SteepleWords$Text.<init> -/
def FX5_init (b : Nat) (σ : qH) (n0 : Nat) : Option (qH) :=
  b1 (some (qU σ n0 (.inl (0, (120, .inl (fun _ => 0)))))) fun s1 =>
  b1 (gP s1 b 3 0 (.ref n0)) fun s3 =>
  b1 (some (qU s3 (n0 + 1) (.inl (0, (6, .inl (fun _ => 0)))))) fun s5 =>
  b1 (gP s5 b 3 4 (.ref (n0 + 1))) fun s7 =>
  some s7
/-- SteepleWords$History.<init> -/
def FX1_init (b : Nat) (σ : qH) (n0 : Nat) : Option (qH) :=
  b1 (some (qU σ n0 (.inl (2, (14, .inr (.inr (.inr (.inr (fun _ => none))))))))) fun s1 =>
  b1 (gP s1 b 1 0 (.ref n0)) fun s3 =>
  b1 (gR s3 b 1 0) fun r5 =>
  b1 (aL s3 r5) fun v7 =>
  if v7 ≤ (0 : Int32) then
    none
  else
    b1 (gR s3 b 1 0) fun r9 =>
    b1 (some (qU s3 (n0 + 1) (.inr (2, [.null, .null, .null, .null, .null, .null, .int 0, .int 0, .int 0, .int 0, .int 0])))) fun s11 =>
    b1 (FX2_init (n0 + 1) s11 (n0 + 2)) fun s13 =>
    b1 (sQ s13 r9 (0 : Int32) (n0 + 1)) fun s15 =>
    b1 (gR s15 b 1 0) fun r17 =>
    b1 (aL s15 r17) fun v19 =>
    if v19 ≤ (1 : Int32) then
      none
    else
      b1 (gR s15 b 1 0) fun r21 =>
      b1 (some (qU s15 (n0 + 8) (.inr (2, [.null, .null, .null, .null, .null, .null, .int 0, .int 0, .int 0, .int 0, .int 0])))) fun s23 =>
      b1 (FX2_init (n0 + 8) s23 (n0 + 9)) fun s25 =>
      b1 (sQ s25 r21 (1 : Int32) (n0 + 8)) fun s27 =>
      b1 (gR s27 b 1 0) fun r29 =>
      b1 (aL s27 r29) fun v31 =>
      if v31 ≤ (2 : Int32) then
        none
      else
        b1 (gR s27 b 1 0) fun r33 =>
        b1 (some (qU s27 (n0 + 15) (.inr (2, [.null, .null, .null, .null, .null, .null, .int 0, .int 0, .int 0, .int 0, .int 0])))) fun s35 =>
        b1 (FX2_init (n0 + 15) s35 (n0 + 16)) fun s37 =>
        b1 (sQ s37 r33 (2 : Int32) (n0 + 15)) fun s39 =>
        b1 (gR s39 b 1 0) fun r41 =>
        b1 (aL s39 r41) fun v43 =>
        if v43 ≤ (3 : Int32) then
          none
        else
          b1 (gR s39 b 1 0) fun r45 =>
          b1 (some (qU s39 (n0 + 22) (.inr (2, [.null, .null, .null, .null, .null, .null, .int 0, .int 0, .int 0, .int 0, .int 0])))) fun s47 =>
          b1 (FX2_init (n0 + 22) s47 (n0 + 23)) fun s49 =>
          b1 (sQ s49 r45 (3 : Int32) (n0 + 22)) fun s51 =>
          b1 (gR s51 b 1 0) fun r53 =>
          b1 (aL s51 r53) fun v55 =>
          if v55 ≤ (4 : Int32) then
            none
          else
            b1 (gR s51 b 1 0) fun r57 =>
            b1 (some (qU s51 (n0 + 29) (.inr (2, [.null, .null, .null, .null, .null, .null, .int 0, .int 0, .int 0, .int 0, .int 0])))) fun s59 =>
            b1 (FX2_init (n0 + 29) s59 (n0 + 30)) fun s61 =>
            b1 (sQ s61 r57 (4 : Int32) (n0 + 29)) fun s63 =>
            b1 (gR s63 b 1 0) fun r65 =>
            b1 (aL s63 r65) fun v67 =>
            if v67 ≤ (5 : Int32) then
              none
            else
              b1 (gR s63 b 1 0) fun r69 =>
              b1 (some (qU s63 (n0 + 36) (.inr (2, [.null, .null, .null, .null, .null, .null, .int 0, .int 0, .int 0, .int 0, .int 0])))) fun s71 =>
              b1 (FX2_init (n0 + 36) s71 (n0 + 37)) fun s73 =>
              b1 (sQ s73 r69 (5 : Int32) (n0 + 36)) fun s75 =>
              b1 (gR s75 b 1 0) fun r77 =>
              b1 (aL s75 r77) fun v79 =>
              if v79 ≤ (6 : Int32) then
                none
              else
                b1 (gR s75 b 1 0) fun r81 =>
                b1 (some (qU s75 (n0 + 43) (.inr (2, [.null, .null, .null, .null, .null, .null, .int 0, .int 0, .int 0, .int 0, .int 0])))) fun s83 =>
                b1 (FX2_init (n0 + 43) s83 (n0 + 44)) fun s85 =>
                b1 (sQ s85 r81 (6 : Int32) (n0 + 43)) fun s87 =>
                b1 (gR s87 b 1 0) fun r89 =>
                b1 (aL s87 r89) fun v91 =>
                if v91 ≤ (7 : Int32) then
                  none
                else
                  b1 (gR s87 b 1 0) fun r93 =>
                  b1 (some (qU s87 (n0 + 50) (.inr (2, [.null, .null, .null, .null, .null, .null, .int 0, .int 0, .int 0, .int 0, .int 0])))) fun s95 =>
                  b1 (FX2_init (n0 + 50) s95 (n0 + 51)) fun s97 =>
                  b1 (sQ s97 r93 (7 : Int32) (n0 + 50)) fun s99 =>
                  b1 (gR s99 b 1 0) fun r101 =>
                  b1 (aL s99 r101) fun v103 =>
                  if v103 ≤ (8 : Int32) then
                    none
                  else
                    b1 (gR s99 b 1 0) fun r105 =>
                    b1 (some (qU s99 (n0 + 57) (.inr (2, [.null, .null, .null, .null, .null, .null, .int 0, .int 0, .int 0, .int 0, .int 0])))) fun s107 =>
                    b1 (FX2_init (n0 + 57) s107 (n0 + 58)) fun s109 =>
                    b1 (sQ s109 r105 (8 : Int32) (n0 + 57)) fun s111 =>
                    b1 (gR s111 b 1 0) fun r113 =>
                    b1 (aL s111 r113) fun v115 =>
                    if v115 ≤ (9 : Int32) then
                      none
                    else
                      b1 (gR s111 b 1 0) fun r117 =>
                      b1 (some (qU s111 (n0 + 64) (.inr (2, [.null, .null, .null, .null, .null, .null, .int 0, .int 0, .int 0, .int 0, .int 0])))) fun s119 =>
                      b1 (FX2_init (n0 + 64) s119 (n0 + 65)) fun s121 =>
                      b1 (sQ s121 r117 (9 : Int32) (n0 + 64)) fun s123 =>
                      b1 (gR s123 b 1 0) fun r125 =>
                      b1 (aL s123 r125) fun v127 =>
                      if v127 ≤ (10 : Int32) then
                        none
                      else
                        b1 (gR s123 b 1 0) fun r129 =>
                        b1 (some (qU s123 (n0 + 71) (.inr (2, [.null, .null, .null, .null, .null, .null, .int 0, .int 0, .int 0, .int 0, .int 0])))) fun s131 =>
                        b1 (FX2_init (n0 + 71) s131 (n0 + 72)) fun s133 =>
                        b1 (sQ s133 r129 (10 : Int32) (n0 + 71)) fun s135 =>
                        b1 (gR s135 b 1 0) fun r137 =>
                        b1 (aL s135 r137) fun v139 =>
                        if v139 ≤ (11 : Int32) then
                          none
                        else
                          b1 (gR s135 b 1 0) fun r141 =>
                          b1 (some (qU s135 (n0 + 78) (.inr (2, [.null, .null, .null, .null, .null, .null, .int 0, .int 0, .int 0, .int 0, .int 0])))) fun s143 =>
                          b1 (FX2_init (n0 + 78) s143 (n0 + 79)) fun s145 =>
                          b1 (sQ s145 r141 (11 : Int32) (n0 + 78)) fun s147 =>
                          b1 (gR s147 b 1 0) fun r149 =>
                          b1 (aL s147 r149) fun v151 =>
                          if v151 ≤ (12 : Int32) then
                            none
                          else
                            b1 (gR s147 b 1 0) fun r153 =>
                            b1 (some (qU s147 (n0 + 85) (.inr (2, [.null, .null, .null, .null, .null, .null, .int 0, .int 0, .int 0, .int 0, .int 0])))) fun s155 =>
                            b1 (FX2_init (n0 + 85) s155 (n0 + 86)) fun s157 =>
                            b1 (sQ s157 r153 (12 : Int32) (n0 + 85)) fun s159 =>
                            b1 (gR s159 b 1 0) fun r161 =>
                            b1 (aL s159 r161) fun v163 =>
                            if v163 ≤ (13 : Int32) then
                              none
                            else
                              b1 (gR s159 b 1 0) fun r165 =>
                              b1 (some (qU s159 (n0 + 92) (.inr (2, [.null, .null, .null, .null, .null, .null, .int 0, .int 0, .int 0, .int 0, .int 0])))) fun s167 =>
                              b1 (FX2_init (n0 + 92) s167 (n0 + 93)) fun s169 =>
                              b1 (sQ s169 r165 (13 : Int32) (n0 + 92)) fun s171 =>
                              b1 (gR s171 b 1 0) fun r173 =>
                              b1 (aL s171 r173) fun v175 =>
                              if v175 ≤ (14 : Int32) then
                                some s171
                              else
                                none
/-- SteepleWords.<init> -/
def FX6_init (b : Nat) (σ : qH) (n0 : Nat) : Option (qH) :=
  b1 (some (qU σ n0 (.inr (2, [.null, .null, .null, .null, .null, .null, .int 0, .int 0, .int 0, .int 0, .int 0])))) fun s1 =>
  b1 (FX2_init n0 s1 (n0 + 1)) fun s3 =>
  b1 (gP s3 b 4 0 (.ref n0)) fun s5 =>
  b1 (some (qU s5 (n0 + 7) (.inr (2, [.null, .null, .null, .null, .null, .null, .int 0, .int 0, .int 0, .int 0, .int 0])))) fun s7 =>
  b1 (FX2_init (n0 + 7) s7 (n0 + 8)) fun s9 =>
  b1 (gP s9 b 4 1 (.ref (n0 + 7))) fun s11 =>
  b1 (some (qU s11 (n0 + 14) (.inl (2, (2, .inr (.inr (.inr (.inr (fun _ => none))))))))) fun s13 =>
  b1 (gP s13 b 4 2 (.ref (n0 + 14))) fun s15 =>
  b1 (some (qU s15 (n0 + 15) (.inl (1, (2, .inl (fun _ => 0)))))) fun s17 =>
  b1 (gP s17 b 4 3 (.ref (n0 + 15))) fun s19 =>
  b1 (some (qU s19 (n0 + 16) (.inr (1, [.null, .int 0, .int 0])))) fun s21 =>
  b1 (FX1_init (n0 + 16) s21 (n0 + 17)) fun s23 =>
  b1 (gP s23 b 4 4 (.ref (n0 + 16))) fun s25 =>
  b1 (some (qU s25 (n0 + 116) (.inr (3, [.null, .int 0, .int 0, .int 0, .null])))) fun s27 =>
  b1 (FX5_init (n0 + 116) s27 (n0 + 117)) fun s29 =>
  b1 (gP s29 b 4 5 (.ref (n0 + 116))) fun s31 =>
  b1 (some (qU s31 (n0 + 119) (.inr (0, [.null, .int 0, .int 0, .int 0])))) fun s33 =>
  b1 (FX0_init (n0 + 119) s33 (n0 + 120)) fun s35 =>
  b1 (gP s35 b 4 6 (.ref (n0 + 119))) fun s37 =>
  b1 (gR s37 b 4 2) fun r39 =>
  b1 (aL s37 r39) fun v41 =>
  if v41 ≤ (0 : Int32) then
    none
  else
    b1 (gR s37 b 4 2) fun r43 =>
    b1 (some (qU s37 (n0 + 121) (.inr (2, [.null, .null, .null, .null, .null, .null, .int 0, .int 0, .int 0, .int 0, .int 0])))) fun s45 =>
    b1 (FX2_init (n0 + 121) s45 (n0 + 122)) fun s47 =>
    b1 (sQ s47 r43 (0 : Int32) (n0 + 121)) fun s49 =>
    b1 (gR s49 b 4 2) fun r51 =>
    b1 (aL s49 r51) fun v53 =>
    if v53 ≤ (1 : Int32) then
      none
    else
      b1 (gR s49 b 4 2) fun r55 =>
      b1 (some (qU s49 (n0 + 128) (.inr (2, [.null, .null, .null, .null, .null, .null, .int 0, .int 0, .int 0, .int 0, .int 0])))) fun s57 =>
      b1 (FX2_init (n0 + 128) s57 (n0 + 129)) fun s59 =>
      b1 (sQ s59 r55 (1 : Int32) (n0 + 128)) fun s61 =>
      b1 (gR s61 b 4 2) fun r63 =>
      b1 (aL s61 r63) fun v65 =>
      if v65 ≤ (2 : Int32) then
        some s61
      else
        none
/-- SteepleWordsModel.<init> -/
def FX7_init (b : Nat) (σ : qH) (n0 : Nat) : Option (qH) :=
  b1 (some (qU σ n0 (.inl (0, (120, .inl (fun _ => 0)))))) fun s1 =>
  b1 (gP s1 b 5 1 (.ref n0)) fun s3 =>
  b1 (some (qU s3 (n0 + 1) (.inl (0, (142, .inl (fun _ => 0)))))) fun s5 =>
  b1 (gP s5 b 5 3 (.ref (n0 + 1))) fun s7 =>
  b1 (some (qU s7 (n0 + 2) (.inl (0, (142, .inl (fun _ => 0)))))) fun s9 =>
  b1 (gP s9 b 5 4 (.ref (n0 + 2))) fun s11 =>
  b1 (some (qU s11 (n0 + 3) (.inl (0, (1988, .inl (fun _ => 0)))))) fun s13 =>
  b1 (gP s13 b 5 5 (.ref (n0 + 3))) fun s15 =>
  b1 (some (qU s15 (n0 + 4) (.inl (0, (284, .inl (fun _ => 0)))))) fun s17 =>
  b1 (gP s17 b 5 7 (.ref (n0 + 4))) fun s19 =>
  b1 (some (qU s19 (n0 + 5) (.inl (1, (2, .inl (fun _ => 0)))))) fun s21 =>
  b1 (gP s21 b 5 8 (.ref (n0 + 5))) fun s23 =>
  b1 (gR s23 b 5 3) fun r25 =>
  b1 (FX7_clear r25 s23) fun s28 =>
  some s28
/-- SteepleWordsLaw.append -/
def FL_append (p0 : Nat) (p1 : Int32) (p2 : Nat) (σ : qH) : Option (Int32 × qH) :=
  bc2 (FX6_append p0 p1 σ) (fun v3 s4 =>
    b1 (sJ s4 p2 (0 : Int32) (v3).toInt64) fun s6 =>
    some ((0 : Int32), s6)
    ) (fun e2 s5 =>
    if e2 = "java/lang/IllegalArgumentException" then
      some ((1 : Int32), s5)
    else
    if e2 = "java/lang/IllegalStateException" then
      some ((2 : Int32), s5)
    else
    none
    )
/-- SteepleWordsLaw.load -/
def FL_load (tst : Nat → Nat) (p0 : Nat) (p1 : Nat) (σ : qH) : Option (Int32 × qH) :=
  bc2 (FX6_load tst p0 σ) (fun v3 s4 =>
    b1 (sJ s4 p1 (0 : Int32) (v3).toInt64) fun s6 =>
    some ((0 : Int32), s6)
    ) (fun e2 s5 =>
    if e2 = "java/lang/IllegalStateException" then
      some ((1 : Int32), s5)
    else
    none
    )
/-- SteepleWordsLaw.about -/
def FL_about (p0 : Nat) (p1 : Int32) (p2 : Nat) (σ : qH) : Option (Int32 × qH) :=
  bc (FX6_about p0 p1 σ) (fun v3 =>
    b1 (sJ σ p2 (0 : Int32) (v3).toInt64) fun s6 =>
    some ((0 : Int32), s6)
    ) (fun e2 =>
    if e2 = "java/lang/IllegalArgumentException" then
      some ((1 : Int32), σ)
    else
    none
    )
/-- SteepleWordsLaw.measureOf -/
def FL_measureOf (p0 : Nat) (p1 : Int32) (p2 : Int32) (p3 : Nat) (σ : qH) : Option (Int32 × qH) :=
  bc (FX6_measureOf p0 p1 p2 σ) (fun v3 =>
    b1 (sJ σ p3 (0 : Int32) (v3).toInt64) fun s6 =>
    some ((0 : Int32), s6)
    ) (fun e2 =>
    if e2 = "java/lang/IndexOutOfBoundsException" then
      some ((1 : Int32), σ)
    else
    if e2 = "java/lang/IllegalArgumentException" then
      some ((2 : Int32), σ)
    else
    none
    )
/-- SteepleWordsLaw.tellerOf -/
def FL_tellerOf (p0 : Nat) (p1 : Int32) (p2 : Int32) (p3 : Nat) (σ : qH) : Option (Int32 × qH) :=
  bc (FX6_tellerOf p0 p1 p2 σ) (fun v3 =>
    b1 (sJ σ p3 (0 : Int32) (v3).toInt64) fun s6 =>
    some ((0 : Int32), s6)
    ) (fun e2 =>
    if e2 = "java/lang/IndexOutOfBoundsException" then
      some ((1 : Int32), σ)
    else
    if e2 = "java/lang/IllegalArgumentException" then
      some ((2 : Int32), σ)
    else
    none
    )
/-- SteepleWordsLaw.steepleOf -/
def FL_steepleOf (p0 : Nat) (p1 : Int32) (p2 : Int32) (p3 : Nat) (σ : qH) : Option (Int32 × qH) :=
  bc (FX6_steepleOf p0 p1 p2 σ) (fun v3 =>
    b1 (sJ σ p3 (0 : Int32) (v3).toInt64) fun s6 =>
    some ((0 : Int32), s6)
    ) (fun e2 =>
    if e2 = "java/lang/IndexOutOfBoundsException" then
      some ((1 : Int32), σ)
    else
    if e2 = "java/lang/IllegalArgumentException" then
      some ((2 : Int32), σ)
    else
    none
    )
/-- SteepleWordsLaw.vote -/
def FL_vote (p0 : Nat) (p1 : Int32) (p2 : Int32) (p3 : Nat) (σ : qH) : Option (Int32 × qH) :=
  bc (FX6_vote p0 p1 p2 σ) (fun v3 =>
    b1 (sJ σ p3 (0 : Int32) (v3).toInt64) fun s6 =>
    some ((0 : Int32), s6)
    ) (fun e2 =>
    if e2 = "java/lang/IndexOutOfBoundsException" then
      some ((1 : Int32), σ)
    else
    if e2 = "java/lang/IllegalArgumentException" then
      some ((2 : Int32), σ)
    else
    none
    )
/-- SteepleWordsLaw.best -/
def FL_best (p0 : Nat) (p1 : Int32) (p2 : Int32) (p3 : Int32) (p4 : Nat) (σ : qH) : Option (Int32 × qH) :=
  bc2 (FX6_best p0 p1 p2 p3 σ) (fun v3 s4 =>
    b1 (sJ s4 p4 (0 : Int32) (v3).toInt64) fun s6 =>
    some ((0 : Int32), s6)
    ) (fun e2 s5 =>
    if e2 = "java/lang/IndexOutOfBoundsException" then
      some ((1 : Int32), s5)
    else
    if e2 = "java/lang/IllegalArgumentException" then
      some ((2 : Int32), s5)
    else
    none
    )
/-- SteepleWordsLaw.setting -/
def FL_setting (p0 : Nat) (p1 : Int32) (p2 : Nat) (σ : qH) : Option (Int32 × qH) :=
  bc (FX6_setting p0 p1 σ) (fun v3 =>
    b1 (sJ σ p2 (0 : Int32) (v3).toInt64) fun s6 =>
    some ((0 : Int32), s6)
    ) (fun e2 =>
    if e2 = "java/lang/IllegalArgumentException" then
      some ((1 : Int32), σ)
    else
    none
    )
/-- SteepleWordsLaw.measure -/
def FL_measure (p0 : Nat) (p1 : Int32) (p2 : Int32) (p3 : Int32) (p4 : Int32) (p5 : Int32) (p6 : Int32) (p7 : Int32) (p8 : Nat) (σ : qH) : Option (Int32 × qH) :=
  bc2 (FX6_measure p0 p1 p2 p3 p4 p5 p6 p7 σ) (fun v3 s4 =>
    b1 (sJ s4 p8 (0 : Int32) (v3).toInt64) fun s6 =>
    some ((0 : Int32), s6)
    ) (fun e2 s5 =>
    if e2 = "java/lang/IndexOutOfBoundsException" then
      some ((1 : Int32), s5)
    else
    if e2 = "java/lang/IllegalArgumentException" then
      some ((2 : Int32), s5)
    else
    if e2 = "java/lang/IllegalStateException" then
      some ((3 : Int32), s5)
    else
    none
    )
/-- SteepleWordsLaw.drop -/
def FL_drop (p0 : Nat) (p1 : Int32) (p2 : Nat) (σ : qH) : Option (Int32 × qH) :=
  bc2 (FX6_drop p0 p1 σ) (fun v3 s4 =>
    b1 (sJ s4 p2 (0 : Int32) (v3).toInt64) fun s6 =>
    some ((0 : Int32), s6)
    ) (fun e2 s5 =>
    if e2 = "java/lang/IndexOutOfBoundsException" then
      some ((1 : Int32), s5)
    else
    none
    )
/-- SteepleWordsLaw.trust -/
def FL_trust (p0 : Nat) (p1 : Int32) (p2 : Int32) (p3 : Nat) (σ : qH) : Option (Int32 × qH) :=
  bc2 (FX6_trust p0 p1 p2 σ) (fun v3 s4 =>
    b1 (sJ s4 p3 (0 : Int32) (v3).toInt64) fun s6 =>
    some ((0 : Int32), s6)
    ) (fun e2 s5 =>
    if e2 = "java/lang/IndexOutOfBoundsException" then
      some ((1 : Int32), s5)
    else
    if e2 = "java/lang/IllegalArgumentException" then
      some ((2 : Int32), s5)
    else
    none
    )
/-- SteepleWordsLaw.survey -/
def FL_survey (p0 : Nat) (p1 : Int32) (p2 : Int32) (p3 : Nat) (σ : qH) : Option (Int32 × qH) :=
  bc2 (FX6_survey p0 p1 p2 σ) (fun v3 s4 =>
    b1 (sJ s4 p3 (0 : Int32) (v3).toInt64) fun s6 =>
    some ((0 : Int32), s6)
    ) (fun e2 s5 =>
    if e2 = "java/lang/IndexOutOfBoundsException" then
      some ((1 : Int32), s5)
    else
    if e2 = "java/lang/IllegalArgumentException" then
      some ((2 : Int32), s5)
    else
    none
    )
/-- SteepleWordsLaw.set -/
def FL_set (p0 : Nat) (p1 : Int32) (p2 : Int32) (p3 : Nat) (σ : qH) : Option (Int32 × qH) :=
  bc2 (FX6_set p0 p1 p2 σ) (fun v3 s4 =>
    b1 (sJ s4 p3 (0 : Int32) (v3).toInt64) fun s6 =>
    some ((0 : Int32), s6)
    ) (fun e2 s5 =>
    if e2 = "java/lang/IllegalArgumentException" then
      some ((1 : Int32), s5)
    else
    none
    )
/-- SteepleWordsLaw.undo -/
def FL_undo (p0 : Nat) (p1 : Nat) (σ : qH) : Option (Int32 × qH) :=
  bc2 (FX6_undo p0 σ) (fun v3 s4 =>
    b1 (sJ s4 p1 (0 : Int32) (v3).toInt64) fun s6 =>
    some ((0 : Int32), s6)
    ) (fun e2 s5 =>
    if e2 = "java/lang/IllegalStateException" then
      some ((1 : Int32), s5)
    else
    none
    )
/-- SteepleWordsLaw.apart -/
def FL_apart (p0 : Nat) (p1 : Int32) (p2 : Int32) (p3 : Nat) (σ : qH) : Option (Int32 × qH) :=
  bc (FX6_apart p0 p1 p2 σ) (fun v3 =>
    b1 (sJ σ p3 (0 : Int32) (v3).toInt64) fun s6 =>
    some ((0 : Int32), s6)
    ) (fun e2 =>
    if e2 = "java/lang/IndexOutOfBoundsException" then
      some ((1 : Int32), σ)
    else
    none
    )
/-- SteepleWordsLaw.against -/
def FL_against (p0 : Nat) (p1 : Int32) (p2 : Nat) (σ : qH) : Option (Int32 × qH) :=
  bc2 (FX6_against p0 p1 σ) (fun v3 s4 =>
    b1 (sJ s4 p2 (0 : Int32) (v3).toInt64) fun s6 =>
    some ((0 : Int32), s6)
    ) (fun e2 s5 =>
    if e2 = "java/lang/IndexOutOfBoundsException" then
      some ((1 : Int32), s5)
    else
    none
    )
/-- SteepleWordsLaw.without -/
def FL_without (p0 : Nat) (p1 : Int32) (p2 : Int32) (p3 : Nat) (σ : qH) : Option (Int32 × qH) :=
  bc2 (FX6_without p0 p1 p2 σ) (fun v3 s4 =>
    b1 (sJ s4 p3 (0 : Int32) (v3).toInt64) fun s6 =>
    some ((0 : Int32), s6)
    ) (fun e2 s5 =>
    if e2 = "java/lang/IndexOutOfBoundsException" then
      some ((1 : Int32), s5)
    else
    if e2 = "java/lang/IllegalArgumentException" then
      some ((2 : Int32), s5)
    else
    none
    )
/-- SteepleWordsLaw.swings -/
def FL_swings (p0 : Nat) (p1 : Int32) (p2 : Int32) (p3 : Nat) (σ : qH) : Option (Int32 × qH) :=
  bc2 (FX6_swings p0 p1 p2 σ) (fun v3 s4 =>
    b1 (sJ s4 p3 (0 : Int32) (v3).toInt64) fun s6 =>
    some ((0 : Int32), s6)
    ) (fun e2 s5 =>
    if e2 = "java/lang/IndexOutOfBoundsException" then
      some ((1 : Int32), s5)
    else
    none
    )
/-- SteepleWordsLaw.runScript -/
def FL_runScript (p0 : Nat) (p1 : Int32) (p2 : Int64) (p3 : Nat) (σ : qH) : Option (Int32 × qH) :=
  bc2 (FX6_runScript p0 p1 p2 σ) (fun v3 s4 =>
    b1 (sJ s4 p3 (0 : Int32) (v3).toInt64) fun s6 =>
    some ((0 : Int32), s6)
    ) (fun e2 s5 =>
    if e2 = "java/lang/IllegalArgumentException" then
      some ((1 : Int32), s5)
    else
    none
    )
/-- SteepleWordsLaw.simulate -/
def FL_simulate (p0 : Nat) (p1 : Int64) (p2 : Int32) (p3 : Nat) (σ : qH) : Option (Int32 × qH) :=
  bc2 (FX6_simulate p0 p1 p2 σ) (fun v3 s4 =>
    b1 (sJ s4 p3 (0 : Int32) (v3).toInt64) fun s6 =>
    some ((0 : Int32), s6)
    ) (fun e2 s5 =>
    if e2 = "java/lang/IllegalArgumentException" then
      some ((1 : Int32), s5)
    else
    none
    )
/-- SteepleWordsLaw.save -/
def FL_save (p0 : Nat) (p1 : Int32) (p2 : Nat) (σ : qH) : Option (Int32 × qH) :=
  bc2 (FX6_save p0 p1 σ) (fun v3 s4 =>
    b1 (sJ s4 p2 (0 : Int32) (v3).toInt64) fun s6 =>
    some ((0 : Int32), s6)
    ) (fun e2 s5 =>
    if e2 = "java/lang/IndexOutOfBoundsException" then
      some ((1 : Int32), s5)
    else
    none
    )
/-- SteepleWordsLaw.restore -/
def FL_restore (p0 : Nat) (p1 : Int32) (p2 : Nat) (σ : qH) : Option (Int32 × qH) :=
  bc2 (FX6_restore p0 p1 σ) (fun v3 s4 =>
    b1 (sJ s4 p2 (0 : Int32) (v3).toInt64) fun s6 =>
    some ((0 : Int32), s6)
    ) (fun e2 s5 =>
    if e2 = "java/lang/IndexOutOfBoundsException" then
      some ((1 : Int32), s5)
    else
    if e2 = "java/lang/IllegalStateException" then
      some ((2 : Int32), s5)
    else
    none
    )
/-- SteepleWordsLaw.law -/
def FL_law_L23 (tst : Nat → Nat) (a0 : Nat) (a1 : Nat) (a2 : Nat) (a3 : Nat) : Nat → Int32 → qH → Option (Int32 × qH)
  | 0, _, _ => none
  | q + 1, y4, σ =>
    b1 (aL σ a0) fun v11 =>
    if (v11 - (8 : Int32)) < y4 then
      some ((1 : Int32), σ)
    else
      b1 (aI σ a0 y4) fun v13 =>
      if (v13 &&& (31 : Int32)) = (0 : Int32) then
        b1 (aI σ a0 (y4 + (1 : Int32))) fun v15 =>
        b2 (FL_append a1 v15 a3 σ) fun v18 s19 =>
        b1 (aI s19 a0 (y4 + (1 : Int32))) fun v20 =>
        b2 (FX7_append a2 v20 s19) fun v23 s24 =>
        b1 (FX7_thrown a2 s24) fun v26 =>
        if v26 = v18 then
          if v18 = 0 then
            b1 (aJ s24 a3 (0 : Int32)) fun v27 =>
            if (lg_cmp v27 (v23).toInt64) = 0 then
              FL_law_L23 tst a0 a1 a2 a3 q (y4 + (8 : Int32)) s24
            else
              some ((0 : Int32), s24)
          else
            FL_law_L23 tst a0 a1 a2 a3 q (y4 + (8 : Int32)) s24
        else
          some ((0 : Int32), s24)
      else
      if (v13 &&& (31 : Int32)) = (1 : Int32) then
        b2 (FX6_clearText a1 σ) fun v31 s32 =>
        b2 (FX7_clearText a2 s32) fun v34 s35 =>
        if v31 = v34 then
          FL_law_L23 tst a0 a1 a2 a3 q (y4 + (8 : Int32)) s35
        else
          some ((0 : Int32), s35)
      else
      if (v13 &&& (31 : Int32)) = (2 : Int32) then
        b2 (FX6_errorPosition tst a1 σ) fun v38 s39 =>
        b2 (FX7_errorPosition a2 s39) fun v41 s42 =>
        if v38 = v41 then
          FL_law_L23 tst a0 a1 a2 a3 q (y4 + (8 : Int32)) s42
        else
          some ((0 : Int32), s42)
      else
      if (v13 &&& (31 : Int32)) = (3 : Int32) then
        b2 (FL_load tst a1 a3 σ) fun v45 s46 =>
        b2 (FX7_load a2 s46) fun v48 s49 =>
        b1 (FX7_thrown a2 s49) fun v51 =>
        if v51 = v45 then
          if v45 = 0 then
            b1 (aJ s49 a3 (0 : Int32)) fun v52 =>
            if (lg_cmp v52 (v48).toInt64) = 0 then
              FL_law_L23 tst a0 a1 a2 a3 q (y4 + (8 : Int32)) s49
            else
              some ((0 : Int32), s49)
          else
            FL_law_L23 tst a0 a1 a2 a3 q (y4 + (8 : Int32)) s49
        else
          some ((0 : Int32), s49)
      else
      if (v13 &&& (31 : Int32)) = (4 : Int32) then
        b1 (aI σ a0 (y4 + (1 : Int32))) fun v55 =>
        b2 (FL_about a1 v55 a3 σ) fun v58 s59 =>
        b1 (aI s59 a0 (y4 + (1 : Int32))) fun v60 =>
        b2 (FX7_about a2 v60 s59) fun v63 s64 =>
        b1 (FX7_thrown a2 s64) fun v66 =>
        if v66 = v58 then
          if v58 = 0 then
            b1 (aJ s64 a3 (0 : Int32)) fun v67 =>
            if (lg_cmp v67 (v63).toInt64) = 0 then
              FL_law_L23 tst a0 a1 a2 a3 q (y4 + (8 : Int32)) s64
            else
              some ((0 : Int32), s64)
          else
            FL_law_L23 tst a0 a1 a2 a3 q (y4 + (8 : Int32)) s64
        else
          some ((0 : Int32), s64)
      else
      if (v13 &&& (31 : Int32)) = (5 : Int32) then
        b1 (aI σ a0 (y4 + (1 : Int32))) fun v70 =>
        b1 (aI σ a0 (y4 + (2 : Int32))) fun v72 =>
        b2 (FL_measureOf a1 v70 v72 a3 σ) fun v75 s76 =>
        b1 (aI s76 a0 (y4 + (1 : Int32))) fun v77 =>
        b1 (aI s76 a0 (y4 + (2 : Int32))) fun v79 =>
        b2 (FX7_measureOf a2 v77 v79 s76) fun v82 s83 =>
        b1 (FX7_thrown a2 s83) fun v85 =>
        if v85 = v75 then
          if v75 = 0 then
            b1 (aJ s83 a3 (0 : Int32)) fun v86 =>
            if (lg_cmp v86 (v82).toInt64) = 0 then
              FL_law_L23 tst a0 a1 a2 a3 q (y4 + (8 : Int32)) s83
            else
              some ((0 : Int32), s83)
          else
            FL_law_L23 tst a0 a1 a2 a3 q (y4 + (8 : Int32)) s83
        else
          some ((0 : Int32), s83)
      else
      if (v13 &&& (31 : Int32)) = (6 : Int32) then
        b1 (aI σ a0 (y4 + (1 : Int32))) fun v89 =>
        b1 (aI σ a0 (y4 + (2 : Int32))) fun v91 =>
        b2 (FL_tellerOf a1 v89 v91 a3 σ) fun v94 s95 =>
        b1 (aI s95 a0 (y4 + (1 : Int32))) fun v96 =>
        b1 (aI s95 a0 (y4 + (2 : Int32))) fun v98 =>
        b2 (FX7_tellerOf a2 v96 v98 s95) fun v101 s102 =>
        b1 (FX7_thrown a2 s102) fun v104 =>
        if v104 = v94 then
          if v94 = 0 then
            b1 (aJ s102 a3 (0 : Int32)) fun v105 =>
            if (lg_cmp v105 (v101).toInt64) = 0 then
              FL_law_L23 tst a0 a1 a2 a3 q (y4 + (8 : Int32)) s102
            else
              some ((0 : Int32), s102)
          else
            FL_law_L23 tst a0 a1 a2 a3 q (y4 + (8 : Int32)) s102
        else
          some ((0 : Int32), s102)
      else
      if (v13 &&& (31 : Int32)) = (7 : Int32) then
        b1 (aI σ a0 (y4 + (1 : Int32))) fun v108 =>
        b1 (aI σ a0 (y4 + (2 : Int32))) fun v110 =>
        b2 (FL_steepleOf a1 v108 v110 a3 σ) fun v113 s114 =>
        b1 (aI s114 a0 (y4 + (1 : Int32))) fun v115 =>
        b1 (aI s114 a0 (y4 + (2 : Int32))) fun v117 =>
        b2 (FX7_steepleOf a2 v115 v117 s114) fun v120 s121 =>
        b1 (FX7_thrown a2 s121) fun v123 =>
        if v123 = v113 then
          if v113 = 0 then
            b1 (aJ s121 a3 (0 : Int32)) fun v124 =>
            if (lg_cmp v124 (v120).toInt64) = 0 then
              FL_law_L23 tst a0 a1 a2 a3 q (y4 + (8 : Int32)) s121
            else
              some ((0 : Int32), s121)
          else
            FL_law_L23 tst a0 a1 a2 a3 q (y4 + (8 : Int32)) s121
        else
          some ((0 : Int32), s121)
      else
      if (v13 &&& (31 : Int32)) = (8 : Int32) then
        b1 (aI σ a0 (y4 + (1 : Int32))) fun v127 =>
        b1 (aI σ a0 (y4 + (2 : Int32))) fun v129 =>
        b2 (FL_vote a1 v127 v129 a3 σ) fun v132 s133 =>
        b1 (aI s133 a0 (y4 + (1 : Int32))) fun v134 =>
        b1 (aI s133 a0 (y4 + (2 : Int32))) fun v136 =>
        b2 (FX7_vote a2 v134 v136 s133) fun v139 s140 =>
        b1 (FX7_thrown a2 s140) fun v142 =>
        if v142 = v132 then
          if v132 = 0 then
            b1 (aJ s140 a3 (0 : Int32)) fun v143 =>
            if (lg_cmp v143 (v139).toInt64) = 0 then
              FL_law_L23 tst a0 a1 a2 a3 q (y4 + (8 : Int32)) s140
            else
              some ((0 : Int32), s140)
          else
            FL_law_L23 tst a0 a1 a2 a3 q (y4 + (8 : Int32)) s140
        else
          some ((0 : Int32), s140)
      else
      if (v13 &&& (31 : Int32)) = (9 : Int32) then
        b1 (aI σ a0 (y4 + (1 : Int32))) fun v146 =>
        b1 (aI σ a0 (y4 + (2 : Int32))) fun v148 =>
        b1 (aI σ a0 (y4 + (3 : Int32))) fun v150 =>
        b2 (FL_best a1 v146 v148 v150 a3 σ) fun v153 s154 =>
        b1 (aI s154 a0 (y4 + (1 : Int32))) fun v155 =>
        b1 (aI s154 a0 (y4 + (2 : Int32))) fun v157 =>
        b1 (aI s154 a0 (y4 + (3 : Int32))) fun v159 =>
        b2 (FX7_best a2 v155 v157 v159 s154) fun v162 s163 =>
        b1 (FX7_thrown a2 s163) fun v165 =>
        if v165 = v153 then
          if v153 = 0 then
            b1 (aJ s163 a3 (0 : Int32)) fun v166 =>
            if (lg_cmp v166 (v162).toInt64) = 0 then
              FL_law_L23 tst a0 a1 a2 a3 q (y4 + (8 : Int32)) s163
            else
              some ((0 : Int32), s163)
          else
            FL_law_L23 tst a0 a1 a2 a3 q (y4 + (8 : Int32)) s163
        else
          some ((0 : Int32), s163)
      else
      if (v13 &&& (31 : Int32)) = (10 : Int32) then
        b1 (aI σ a0 (y4 + (1 : Int32))) fun v169 =>
        b2 (FL_setting a1 v169 a3 σ) fun v172 s173 =>
        b1 (aI s173 a0 (y4 + (1 : Int32))) fun v174 =>
        b2 (FX7_setting a2 v174 s173) fun v177 s178 =>
        b1 (FX7_thrown a2 s178) fun v180 =>
        if v180 = v172 then
          if v172 = 0 then
            b1 (aJ s178 a3 (0 : Int32)) fun v181 =>
            if (lg_cmp v181 (v177).toInt64) = 0 then
              FL_law_L23 tst a0 a1 a2 a3 q (y4 + (8 : Int32)) s178
            else
              some ((0 : Int32), s178)
          else
            FL_law_L23 tst a0 a1 a2 a3 q (y4 + (8 : Int32)) s178
        else
          some ((0 : Int32), s178)
      else
      if (v13 &&& (31 : Int32)) = (11 : Int32) then
        b1 (aI σ a0 (y4 + (1 : Int32))) fun v184 =>
        b1 (aI σ a0 (y4 + (2 : Int32))) fun v186 =>
        b1 (aI σ a0 (y4 + (3 : Int32))) fun v188 =>
        b1 (aI σ a0 (y4 + (4 : Int32))) fun v190 =>
        b1 (aI σ a0 (y4 + (5 : Int32))) fun v192 =>
        b1 (aI σ a0 (y4 + (6 : Int32))) fun v194 =>
        b1 (aI σ a0 (y4 + (7 : Int32))) fun v196 =>
        b2 (FL_measure a1 v184 v186 v188 v190 v192 v194 v196 a3 σ) fun v199 s200 =>
        b1 (aI s200 a0 (y4 + (1 : Int32))) fun v201 =>
        b1 (aI s200 a0 (y4 + (2 : Int32))) fun v203 =>
        b1 (aI s200 a0 (y4 + (3 : Int32))) fun v205 =>
        b1 (aI s200 a0 (y4 + (4 : Int32))) fun v207 =>
        b1 (aI s200 a0 (y4 + (5 : Int32))) fun v209 =>
        b1 (aI s200 a0 (y4 + (6 : Int32))) fun v211 =>
        b1 (aI s200 a0 (y4 + (7 : Int32))) fun v213 =>
        b2 (FX7_measure a2 v201 v203 v205 v207 v209 v211 v213 s200) fun v216 s217 =>
        b1 (FX7_thrown a2 s217) fun v219 =>
        if v219 = v199 then
          if v199 = 0 then
            b1 (aJ s217 a3 (0 : Int32)) fun v220 =>
            if (lg_cmp v220 (v216).toInt64) = 0 then
              FL_law_L23 tst a0 a1 a2 a3 q (y4 + (8 : Int32)) s217
            else
              some ((0 : Int32), s217)
          else
            FL_law_L23 tst a0 a1 a2 a3 q (y4 + (8 : Int32)) s217
        else
          some ((0 : Int32), s217)
      else
      if (v13 &&& (31 : Int32)) = (12 : Int32) then
        b1 (aI σ a0 (y4 + (1 : Int32))) fun v223 =>
        b2 (FL_drop a1 v223 a3 σ) fun v226 s227 =>
        b1 (aI s227 a0 (y4 + (1 : Int32))) fun v228 =>
        b2 (FX7_drop a2 v228 s227) fun v231 s232 =>
        b1 (FX7_thrown a2 s232) fun v234 =>
        if v234 = v226 then
          if v226 = 0 then
            b1 (aJ s232 a3 (0 : Int32)) fun v235 =>
            if (lg_cmp v235 (v231).toInt64) = 0 then
              FL_law_L23 tst a0 a1 a2 a3 q (y4 + (8 : Int32)) s232
            else
              some ((0 : Int32), s232)
          else
            FL_law_L23 tst a0 a1 a2 a3 q (y4 + (8 : Int32)) s232
        else
          some ((0 : Int32), s232)
      else
      if (v13 &&& (31 : Int32)) = (13 : Int32) then
        b1 (aI σ a0 (y4 + (1 : Int32))) fun v238 =>
        b1 (aI σ a0 (y4 + (2 : Int32))) fun v240 =>
        b2 (FL_trust a1 v238 v240 a3 σ) fun v243 s244 =>
        b1 (aI s244 a0 (y4 + (1 : Int32))) fun v245 =>
        b1 (aI s244 a0 (y4 + (2 : Int32))) fun v247 =>
        b2 (FX7_trust a2 v245 v247 s244) fun v250 s251 =>
        b1 (FX7_thrown a2 s251) fun v253 =>
        if v253 = v243 then
          if v243 = 0 then
            b1 (aJ s251 a3 (0 : Int32)) fun v254 =>
            if (lg_cmp v254 (v250).toInt64) = 0 then
              FL_law_L23 tst a0 a1 a2 a3 q (y4 + (8 : Int32)) s251
            else
              some ((0 : Int32), s251)
          else
            FL_law_L23 tst a0 a1 a2 a3 q (y4 + (8 : Int32)) s251
        else
          some ((0 : Int32), s251)
      else
      if (v13 &&& (31 : Int32)) = (14 : Int32) then
        b2 (FX6_evening a1 σ) fun v258 s259 =>
        b2 (FX7_evening a2 s259) fun v261 s262 =>
        if v258 = v261 then
          FL_law_L23 tst a0 a1 a2 a3 q (y4 + (8 : Int32)) s262
        else
          some ((0 : Int32), s262)
      else
      if (v13 &&& (31 : Int32)) = (15 : Int32) then
        b1 (aI σ a0 (y4 + (1 : Int32))) fun v264 =>
        b1 (aI σ a0 (y4 + (2 : Int32))) fun v266 =>
        b2 (FL_survey a1 v264 v266 a3 σ) fun v269 s270 =>
        b1 (aI s270 a0 (y4 + (1 : Int32))) fun v271 =>
        b1 (aI s270 a0 (y4 + (2 : Int32))) fun v273 =>
        b2 (FX7_survey a2 v271 v273 s270) fun v276 s277 =>
        b1 (FX7_thrown a2 s277) fun v279 =>
        if v279 = v269 then
          if v269 = 0 then
            b1 (aJ s277 a3 (0 : Int32)) fun v280 =>
            if (lg_cmp v280 (v276).toInt64) = 0 then
              FL_law_L23 tst a0 a1 a2 a3 q (y4 + (8 : Int32)) s277
            else
              some ((0 : Int32), s277)
          else
            FL_law_L23 tst a0 a1 a2 a3 q (y4 + (8 : Int32)) s277
        else
          some ((0 : Int32), s277)
      else
      if (v13 &&& (31 : Int32)) = (16 : Int32) then
        b1 (aI σ a0 (y4 + (1 : Int32))) fun v283 =>
        b1 (aI σ a0 (y4 + (2 : Int32))) fun v285 =>
        b2 (FL_set a1 v283 v285 a3 σ) fun v288 s289 =>
        b1 (aI s289 a0 (y4 + (1 : Int32))) fun v290 =>
        b1 (aI s289 a0 (y4 + (2 : Int32))) fun v292 =>
        b2 (FX7_set a2 v290 v292 s289) fun v295 s296 =>
        b1 (FX7_thrown a2 s296) fun v298 =>
        if v298 = v288 then
          if v288 = 0 then
            b1 (aJ s296 a3 (0 : Int32)) fun v299 =>
            if (lg_cmp v299 (v295).toInt64) = 0 then
              FL_law_L23 tst a0 a1 a2 a3 q (y4 + (8 : Int32)) s296
            else
              some ((0 : Int32), s296)
          else
            FL_law_L23 tst a0 a1 a2 a3 q (y4 + (8 : Int32)) s296
        else
          some ((0 : Int32), s296)
      else
      if (v13 &&& (31 : Int32)) = (17 : Int32) then
        b2 (FL_undo a1 a3 σ) fun v303 s304 =>
        b2 (FX7_undo a2 s304) fun v306 s307 =>
        b1 (FX7_thrown a2 s307) fun v309 =>
        if v309 = v303 then
          if v303 = 0 then
            b1 (aJ s307 a3 (0 : Int32)) fun v310 =>
            if (lg_cmp v310 (v306).toInt64) = 0 then
              FL_law_L23 tst a0 a1 a2 a3 q (y4 + (8 : Int32)) s307
            else
              some ((0 : Int32), s307)
          else
            FL_law_L23 tst a0 a1 a2 a3 q (y4 + (8 : Int32)) s307
        else
          some ((0 : Int32), s307)
      else
      if (v13 &&& (31 : Int32)) = (18 : Int32) then
        b1 (aI σ a0 (y4 + (1 : Int32))) fun v313 =>
        b1 (aI σ a0 (y4 + (2 : Int32))) fun v315 =>
        b2 (FL_apart a1 v313 v315 a3 σ) fun v318 s319 =>
        b1 (aI s319 a0 (y4 + (1 : Int32))) fun v320 =>
        b1 (aI s319 a0 (y4 + (2 : Int32))) fun v322 =>
        b2 (FX7_apart a2 v320 v322 s319) fun v325 s326 =>
        b1 (FX7_thrown a2 s326) fun v328 =>
        if v328 = v318 then
          if v318 = 0 then
            b1 (aJ s326 a3 (0 : Int32)) fun v329 =>
            if (lg_cmp v329 (v325).toInt64) = 0 then
              FL_law_L23 tst a0 a1 a2 a3 q (y4 + (8 : Int32)) s326
            else
              some ((0 : Int32), s326)
          else
            FL_law_L23 tst a0 a1 a2 a3 q (y4 + (8 : Int32)) s326
        else
          some ((0 : Int32), s326)
      else
      if (v13 &&& (31 : Int32)) = (19 : Int32) then
        b1 (aI σ a0 (y4 + (1 : Int32))) fun v332 =>
        b2 (FL_against a1 v332 a3 σ) fun v335 s336 =>
        b1 (aI s336 a0 (y4 + (1 : Int32))) fun v337 =>
        b2 (FX7_against a2 v337 s336) fun v340 s341 =>
        b1 (FX7_thrown a2 s341) fun v343 =>
        if v343 = v335 then
          if v335 = 0 then
            b1 (aJ s341 a3 (0 : Int32)) fun v344 =>
            if (lg_cmp v344 (v340).toInt64) = 0 then
              FL_law_L23 tst a0 a1 a2 a3 q (y4 + (8 : Int32)) s341
            else
              some ((0 : Int32), s341)
          else
            FL_law_L23 tst a0 a1 a2 a3 q (y4 + (8 : Int32)) s341
        else
          some ((0 : Int32), s341)
      else
      if (v13 &&& (31 : Int32)) = (20 : Int32) then
        b1 (aI σ a0 (y4 + (1 : Int32))) fun v347 =>
        b1 (aI σ a0 (y4 + (2 : Int32))) fun v349 =>
        b2 (FL_without a1 v347 v349 a3 σ) fun v352 s353 =>
        b1 (aI s353 a0 (y4 + (1 : Int32))) fun v354 =>
        b1 (aI s353 a0 (y4 + (2 : Int32))) fun v356 =>
        b2 (FX7_without a2 v354 v356 s353) fun v359 s360 =>
        b1 (FX7_thrown a2 s360) fun v362 =>
        if v362 = v352 then
          if v352 = 0 then
            b1 (aJ s360 a3 (0 : Int32)) fun v363 =>
            if (lg_cmp v363 (v359).toInt64) = 0 then
              FL_law_L23 tst a0 a1 a2 a3 q (y4 + (8 : Int32)) s360
            else
              some ((0 : Int32), s360)
          else
            FL_law_L23 tst a0 a1 a2 a3 q (y4 + (8 : Int32)) s360
        else
          some ((0 : Int32), s360)
      else
      if (v13 &&& (31 : Int32)) = (21 : Int32) then
        b1 (aI σ a0 (y4 + (1 : Int32))) fun v366 =>
        b1 (aI σ a0 (y4 + (2 : Int32))) fun v368 =>
        b2 (FL_swings a1 v366 v368 a3 σ) fun v371 s372 =>
        b1 (aI s372 a0 (y4 + (1 : Int32))) fun v373 =>
        b1 (aI s372 a0 (y4 + (2 : Int32))) fun v375 =>
        b2 (FX7_swings a2 v373 v375 s372) fun v378 s379 =>
        b1 (FX7_thrown a2 s379) fun v381 =>
        if v381 = v371 then
          if v371 = 0 then
            b1 (aJ s379 a3 (0 : Int32)) fun v382 =>
            if (lg_cmp v382 (v378).toInt64) = 0 then
              FL_law_L23 tst a0 a1 a2 a3 q (y4 + (8 : Int32)) s379
            else
              some ((0 : Int32), s379)
          else
            FL_law_L23 tst a0 a1 a2 a3 q (y4 + (8 : Int32)) s379
        else
          some ((0 : Int32), s379)
      else
      if (v13 &&& (31 : Int32)) = (22 : Int32) then
        b1 (FX6_truest a1 σ) fun v386 =>
        b2 (FX7_truest a2 σ) fun v388 s389 =>
        if v386 = v388 then
          FL_law_L23 tst a0 a1 a2 a3 q (y4 + (8 : Int32)) s389
        else
          some ((0 : Int32), s389)
      else
      if (v13 &&& (31 : Int32)) = (23 : Int32) then
        b1 (aI σ a0 (y4 + (1 : Int32))) fun v391 =>
        b1 (aI σ a0 (y4 + (2 : Int32))) fun v393 =>
        b1 (aI σ a0 (y4 + (3 : Int32))) fun v395 =>
        b2 (FL_runScript a1 v391 (((v393).toInt64 <<< ((32 : Int32).toInt64 &&& 63)) ||| ((v395).toInt64 &&& (4294967295 : Int64))) a3 σ) fun v398 s399 =>
        b1 (aI s399 a0 (y4 + (1 : Int32))) fun v400 =>
        b1 (aI s399 a0 (y4 + (2 : Int32))) fun v402 =>
        b1 (aI s399 a0 (y4 + (3 : Int32))) fun v404 =>
        b2 (FX7_runScript a2 v400 (((v402).toInt64 <<< ((32 : Int32).toInt64 &&& 63)) ||| ((v404).toInt64 &&& (4294967295 : Int64))) s399) fun v407 s408 =>
        b1 (FX7_thrown a2 s408) fun v410 =>
        if v410 = v398 then
          if v398 = 0 then
            b1 (aJ s408 a3 (0 : Int32)) fun v411 =>
            if (lg_cmp v411 (v407).toInt64) = 0 then
              FL_law_L23 tst a0 a1 a2 a3 q (y4 + (8 : Int32)) s408
            else
              some ((0 : Int32), s408)
          else
            FL_law_L23 tst a0 a1 a2 a3 q (y4 + (8 : Int32)) s408
        else
          some ((0 : Int32), s408)
      else
      if (v13 &&& (31 : Int32)) = (24 : Int32) then
        b1 (aI σ a0 (y4 + (1 : Int32))) fun v414 =>
        b1 (aI σ a0 (y4 + (2 : Int32))) fun v416 =>
        b1 (aI σ a0 (y4 + (3 : Int32))) fun v418 =>
        b2 (FL_simulate a1 (((v414).toInt64 <<< ((32 : Int32).toInt64 &&& 63)) ||| ((v416).toInt64 &&& (4294967295 : Int64))) v418 a3 σ) fun v421 s422 =>
        b1 (aI s422 a0 (y4 + (1 : Int32))) fun v423 =>
        b1 (aI s422 a0 (y4 + (2 : Int32))) fun v425 =>
        b1 (aI s422 a0 (y4 + (3 : Int32))) fun v427 =>
        b2 (FX7_simulate a2 (((v423).toInt64 <<< ((32 : Int32).toInt64 &&& 63)) ||| ((v425).toInt64 &&& (4294967295 : Int64))) v427 s422) fun v430 s431 =>
        b1 (FX7_thrown a2 s431) fun v433 =>
        if v433 = v421 then
          if v421 = 0 then
            b1 (aJ s431 a3 (0 : Int32)) fun v434 =>
            if (lg_cmp v434 (v430).toInt64) = 0 then
              FL_law_L23 tst a0 a1 a2 a3 q (y4 + (8 : Int32)) s431
            else
              some ((0 : Int32), s431)
          else
            FL_law_L23 tst a0 a1 a2 a3 q (y4 + (8 : Int32)) s431
        else
          some ((0 : Int32), s431)
      else
      if (v13 &&& (31 : Int32)) = (25 : Int32) then
        b1 (aI σ a0 (y4 + (1 : Int32))) fun v437 =>
        b2 (FL_save a1 v437 a3 σ) fun v440 s441 =>
        b1 (aI s441 a0 (y4 + (1 : Int32))) fun v442 =>
        b2 (FX7_save a2 v442 s441) fun v445 s446 =>
        b1 (FX7_thrown a2 s446) fun v448 =>
        if v448 = v440 then
          if v440 = 0 then
            b1 (aJ s446 a3 (0 : Int32)) fun v449 =>
            if (lg_cmp v449 (v445).toInt64) = 0 then
              FL_law_L23 tst a0 a1 a2 a3 q (y4 + (8 : Int32)) s446
            else
              some ((0 : Int32), s446)
          else
            FL_law_L23 tst a0 a1 a2 a3 q (y4 + (8 : Int32)) s446
        else
          some ((0 : Int32), s446)
      else
      if (v13 &&& (31 : Int32)) = (26 : Int32) then
        b1 (aI σ a0 (y4 + (1 : Int32))) fun v452 =>
        b2 (FL_restore a1 v452 a3 σ) fun v455 s456 =>
        b1 (aI s456 a0 (y4 + (1 : Int32))) fun v457 =>
        b2 (FX7_restore a2 v457 s456) fun v460 s461 =>
        b1 (FX7_thrown a2 s461) fun v463 =>
        if v463 = v455 then
          if v455 = 0 then
            b1 (aJ s461 a3 (0 : Int32)) fun v464 =>
            if (lg_cmp v464 (v460).toInt64) = 0 then
              FL_law_L23 tst a0 a1 a2 a3 q (y4 + (8 : Int32)) s461
            else
              some ((0 : Int32), s461)
          else
            FL_law_L23 tst a0 a1 a2 a3 q (y4 + (8 : Int32)) s461
        else
          some ((0 : Int32), s461)
      else
      FL_law_L23 tst a0 a1 a2 a3 q (y4 + (8 : Int32)) σ
def FL_law (tst : Nat → Nat) (p0 : Nat) (σ : qH) (n0 : Nat) : Option (Int32 × qH) :=
  b1 (some (qU σ n0 (.inr (4, [.null, .null, .null, .null, .null, .null, .null])))) fun s1 =>
  b1 (FX6_init n0 s1 (n0 + 1)) fun s3 =>
  b1 (some (qU s3 (n0 + 136) (.inr (5, [.int 0, .null, .int 0, .null, .null, .null, .int 0, .null, .null, .int 0, .int 0])))) fun s5 =>
  b1 (FX7_init (n0 + 136) s5 (n0 + 137)) fun s7 =>
  b1 (some (qU s7 (n0 + 143) (.inl (3, (1, .inr (.inl (fun _ => 0))))))) fun s9 =>
  FL_law_L23 tst p0 n0 (n0 + 136) (n0 + 143) qfuel (0 : Int32) s9
