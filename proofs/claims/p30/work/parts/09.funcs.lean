/-- SteepleWords.need -/
def FX6_need (p0 : Int32) (σ : qH) : Option ((Unit) ⊕ String) :=
  if p0 = 0 then
    some (.inr "java/lang/IllegalArgumentException")
  else
    some (.inl ())
/-- SteepleWords$Text.isFull -/
def FX5_isFull (b : Nat) (σ : qH) : Option (Int32) :=
  b1 (gC σ b 3) fun _ =>
  b1 (gI σ b 3 1) fun v1 =>
  b1 ((
      if v1 < (120 : Int32) then
        some (0 : Int32)
      else
        some (1 : Int32)
    ) : Option (Int32)) fun x3 =>
  if x3 = 0 ∨ x3 = 1 then
    some x3
  else none
/-- SteepleWords$Text.add -/
def FX5_add (b : Nat) (p0 : Int32) (σ : qH) : Option (Int32 × qH) :=
  b1 (gC σ b 3) fun _ =>
  b1 (gR σ b 3 0) fun r1 =>
  b1 (gI σ b 3 1) fun v3 =>
  b1 (sI σ r1 v3 p0) fun s5 =>
  b1 (gI s5 b 3 1) fun v7 =>
  b1 (gP s5 b 3 1 (.int (v7 + (1 : Int32)))) fun s9 =>
  b1 (gI s9 b 3 1) fun v11 =>
  some (v11, s9)
/-- SteepleWords.append -/
def FX6_append (b : Nat) (p0 : Int32) (σ : qH) : Option ((Int32 × qH) ⊕ (String × qH)) :=
  b1 (gC σ b 4) fun _ =>
  b1 ((
      if p0 < (0 : Int32) then
        some (0 : Int32)
      else
        if (255 : Int32) < p0 then
          some (0 : Int32)
        else
          some (1 : Int32)
    ) : Option (Int32)) fun x1 =>
  bxw (FX6_need x1 σ) σ fun _ =>
  b1 (gR σ b 4 5) fun r4 =>
  b1 (FX5_isFull r4 σ) fun v7 =>
  if v7 = 0 then
    b1 (gR σ b 4 5) fun r8 =>
    b2 (FX5_add r8 p0 σ) fun v11 s12 =>
    some (.inl (v11, s12))
  else
    some (.inr ("java/lang/IllegalStateException", σ))
/-- SteepleWords$Text.signHere -/
def FX5_signHere (b : Nat) (σ : qH) : Option (Int32) :=
  b1 (gC σ b 3) fun _ =>
  b1 (gI σ b 3 2) fun v1 =>
  b1 (gI σ b 3 1) fun v3 =>
  b1 ((
      if v3 ≤ v1 then
        some (-1 : Int32)
      else
        b1 (gR σ b 3 0) fun r6 =>
        b1 (gI σ b 3 2) fun v8 =>
        b1 (aI σ r6 v8) fun v10 =>
        some v10
    ) : Option (Int32)) fun x5 =>
  some x5
/-- SteepleWords$Text.readHead -/
def FX5_readHead (b : Nat) (σ : qH) : Option (Int32 × qH) :=
  b1 (gC σ b 3) fun _ =>
  b1 (gP σ b 3 2 (.int (0 : Int32))) fun s1 =>
  b1 (FX5_signHere b s1) fun v4 =>
  if v4 = (80 : Int32) then
    b1 (gP s1 b 3 2 (.int (1 : Int32))) fun s5 =>
    some ((1 : Int32), s5)
  else
    some ((0 : Int32), s1)
/-- SteepleWords$Text.leadsInto -/
def FX5_leadsInto_L9 (a1 : Int32) (a2 : Int32) (a3 : Int32) (σ : qH) : Nat → Int32 → Int32 → Int32 → Option (Int32 × Int32)
  | 0, _, _, _ => none
  | q + 1, y4, y5, y6 =>
    if a1 ≤ y6 then
      some (y4, y5)
    else
      FX5_leadsInto_L9 a1 a2 a3 σ q ((10 : Int32) * y4) (((10 : Int32) * y5) + (9 : Int32)) (y6 + (1 : Int32))
def FX5_leadsInto (p0 : Int32) (p1 : Int32) (p2 : Int32) (p3 : Int32) (σ : qH) : Option (Int32) :=
  b2 (FX5_leadsInto_L9 p1 p2 p3 σ qfuel p0 p0 (0 : Int32)) fun x1 x2 =>
  b1 ((
      if p3 < x1 then
        some (0 : Int32)
      else
        if x2 < p2 then
          some (0 : Int32)
        else
          some (1 : Int32)
    ) : Option (Int32)) fun x3 =>
  if x3 = 0 ∨ x3 = 1 then
    some x3
  else none
/-- SteepleWords$Text.readNumber -/
def FX5_readNumber_L8 (a0 : Nat) (a2 : Int32) (a3 : Int32) : Nat → Int32 → Int32 → qH → Option (Int32 × qH)
  | 0, _, _, _ => none
  | q + 1, y4, y5, σ =>
    if y5 < 0 then
      some (y4, σ)
    else
      b1 (FX5_signHere a0 σ) fun v2 =>
      if v2 < (48 : Int32) then
        some ((-1 : Int32), σ)
      else
        if (57 : Int32) < v2 then
          some ((-1 : Int32), σ)
        else
          b1 (FX5_leadsInto ((((10 : Int32) * y4) + v2) - (48 : Int32)) y5 a2 a3 σ) fun v4 =>
          if v4 = 0 then
            some ((-1 : Int32), σ)
          else
            b1 (gI σ a0 3 2) fun v5 =>
            b1 (gP σ a0 3 2 (.int (v5 + (1 : Int32)))) fun s7 =>
            FX5_readNumber_L8 a0 a2 a3 q ((((10 : Int32) * y4) + v2) - (48 : Int32)) (y5 + (-1 : Int32)) s7
def FX5_readNumber (b : Nat) (p0 : Int32) (p1 : Int32) (p2 : Int32) (σ : qH) : Option (Int32 × qH) :=
  b1 (gC σ b 3) fun _ =>
  FX5_readNumber_L8 b p1 p2 qfuel (0 : Int32) (p0 - (1 : Int32)) σ
/-- SteepleWords$Text.readNumbers -/
def FX5_readNumbers_L12 (a0 : Nat) (a1 : Nat) : Nat → Int32 → qH → Option (Int32 × qH)
  | 0, _, _ => none
  | q + 1, y2, σ =>
    if (6 : Int32) ≤ y2 then
      some ((1 : Int32), σ)
    else
      b1 (aL σ a1) fun v5 =>
      if v5 ≤ (((3 : Int32) * y2) + (2 : Int32)) then
        some ((1 : Int32), σ)
      else
        b1 (gR σ a0 3 4) fun r7 =>
        b1 (aI σ a1 ((3 : Int32) * y2)) fun v9 =>
        b1 (aI σ a1 (((3 : Int32) * y2) + (1 : Int32))) fun v11 =>
        b1 (aI σ a1 (((3 : Int32) * y2) + (2 : Int32))) fun v13 =>
        b2 (FX5_readNumber a0 v9 v11 v13 σ) fun v16 s17 =>
        b1 (sI s17 r7 y2 v16) fun s18 =>
        b1 (gR s18 a0 3 4) fun r20 =>
        b1 (aI s18 r20 y2) fun v22 =>
        if v22 = (-1 : Int32) then
          some ((0 : Int32), s18)
        else
          FX5_readNumbers_L12 a0 a1 q (y2 + (1 : Int32)) s18
def FX5_readNumbers (b : Nat) (p0 : Nat) (σ : qH) : Option (Int32 × qH) :=
  b1 (gC σ b 3) fun _ =>
  b1 (gI σ b 3 2) fun v1 =>
  b1 (gP σ b 3 2 (.int (v1 + (1 : Int32)))) fun s3 =>
  FX5_readNumbers_L12 b p0 qfuel (0 : Int32) s3
/-- SteepleWords$Text.readCommand -/
def FX5_readCommand (tst : Nat → Nat) (b : Nat) (σ : qH) : Option (Int32 × qH) :=
  b1 (gC σ b 3) fun _ =>
  b1 (FX5_signHere b σ) fun v2 =>
  b1 (gP σ b 3 3 (.int v2)) fun s3 =>
  b1 (gI s3 b 3 3) fun v5 =>
  if v5 = (100 : Int32) then
    b2 (FX5_readNumbers b (tst 3) s3) fun v8 s9 =>
    if v8 = 0 ∨ v8 = 1 then
      some (v8, s9)
    else none
  else
  if v5 = (111 : Int32) then
    b2 (FX5_readNumbers b (tst 1) s3) fun v12 s13 =>
    if v12 = 0 ∨ v12 = 1 then
      some (v12, s13)
    else none
  else
  if v5 = (113 : Int32) then
    b2 (FX5_readNumbers b (tst 5) s3) fun v16 s17 =>
    if v16 = 0 ∨ v16 = 1 then
      some (v16, s17)
    else none
  else
  if v5 = (115 : Int32) then
    b2 (FX5_readNumbers b (tst 0) s3) fun v20 s21 =>
    if v20 = 0 ∨ v20 = 1 then
      some (v20, s21)
    else none
  else
  if v5 = (116 : Int32) then
    b2 (FX5_readNumbers b (tst 4) s3) fun v24 s25 =>
    if v24 = 0 ∨ v24 = 1 then
      some (v24, s25)
    else none
  else
  if v5 = (118 : Int32) then
    b2 (FX5_readNumbers b (tst 6) s3) fun v28 s29 =>
    if v28 = 0 ∨ v28 = 1 then
      some (v28, s29)
    else none
  else
  if v5 = (119 : Int32) then
    b2 (FX5_readNumbers b (tst 2) s3) fun v32 s33 =>
    if v32 = 0 ∨ v32 = 1 then
      some (v32, s33)
    else none
  else
  some ((0 : Int32), s3)
/-- SteepleWords$Text.findError -/
def FX5_findError_L14 (tst : Nat → Nat) (a0 : Nat) : Nat → Int32 → qH → Option (Int32 × qH)
  | 0, _, _ => none
  | q + 1, y1, σ =>
    if (120 : Int32) ≤ y1 then
      some ((-1 : Int32), σ)
    else
      b1 (gI σ a0 3 2) fun v6 =>
      b1 (gI σ a0 3 1) fun v8 =>
      if v8 ≤ v6 then
        some ((-1 : Int32), σ)
      else
        b2 (FX5_readCommand tst a0 σ) fun v11 s12 =>
        if v11 = 0 then
          b1 (gI s12 a0 3 2) fun v13 =>
          some (v13, s12)
        else
          FX5_findError_L14 tst a0 q (y1 + (1 : Int32)) s12
def FX5_findError (tst : Nat → Nat) (b : Nat) (σ : qH) : Option (Int32 × qH) :=
  b1 (gC σ b 3) fun _ =>
  b2 (FX5_readHead b σ) fun v2 s3 =>
  if v2 = 0 then
    b1 (gI s3 b 3 2) fun v4 =>
    some (v4, s3)
  else
    FX5_findError_L14 tst b qfuel (0 : Int32) s3
/-- java/util/Arrays.fill -/
def FJ7_fill_53178_L5 (a0 : Nat) (a1 : Int32) (a3 : Int32) : Nat → Int32 → qH → Option (qH)
  | 0, _, _ => none
  | q + 1, y2, σ =>
    if a3 ≤ y2 then
      some σ
    else
      b1 (sI σ a0 y2 a1) fun s3 =>
      FJ7_fill_53178_L5 a0 a1 a3 q (y2 + (1 : Int32)) s3
def FJ7_fill_53178 (p0 : Nat) (p1 : Int32) (σ : qH) : Option (qH) :=
  b1 (aL σ p0) fun v1 =>
  b1 (FJ7_fill_53178_L5 p0 p1 v1 qfuel (0 : Int32) σ) fun s5 =>
  some s5
/-- SteepleWords$Parish.makeNew -/
def FX2_makeNew (b : Nat) (σ : qH) : Option (qH) :=
  b1 (gC σ b 2) fun _ =>
  b1 (gR σ b 2 0) fun r1 =>
  b1 (FJ7_fill_53178 r1 (0 : Int32) σ) fun s4 =>
  b1 (gR s4 b 2 1) fun r5 =>
  b1 (FJ7_fill_53178 r5 (5 : Int32) s4) fun s8 =>
  b1 (gR s8 b 2 2) fun r9 =>
  b1 (FJ7_fill_53178 r9 (0 : Int32) s8) fun s12 =>
  b1 (gR s12 b 2 3) fun r13 =>
  b1 (FJ7_fill_53178 r13 (0 : Int32) s12) fun s16 =>
  b1 (gR s16 b 2 4) fun r17 =>
  b1 (FJ7_fill_53178 r17 (-1 : Int32) s16) fun s20 =>
  b1 (gR s20 b 2 5) fun r21 =>
  b1 (sI s20 r21 (0 : Int32) (1 : Int32)) fun s23 =>
  b1 (gR s23 b 2 5) fun r25 =>
  b1 (sI s23 r25 (1 : Int32) (5 : Int32)) fun s27 =>
  b1 (gP s27 b 2 6 (.int (0 : Int32))) fun s29 =>
  b1 (gP s29 b 2 7 (.int (0 : Int32))) fun s31 =>
  b1 (gP s31 b 2 8 (.int (0 : Int32))) fun s33 =>
  b1 (gP s33 b 2 9 (.int (0 : Int32))) fun s35 =>
  b1 (gP s35 b 2 10 (.int (0 : Int32))) fun s37 =>
  some s37
/-- SteepleWords$History.forget -/
def FX1_forget (b : Nat) (σ : qH) : Option (qH) :=
  b1 (gC σ b 1) fun _ =>
  b1 (gP σ b 1 2 (.int (0 : Int32))) fun s1 =>
  some s1
/-- SteepleWords$Text.number -/
def FX5_number (b : Nat) (p0 : Int32) (σ : qH) : Option (Int32) :=
  b1 (gC σ b 3) fun _ =>
  b1 (gR σ b 3 4) fun r1 =>
  b1 (aI σ r1 p0) fun v3 =>
  some v3
/-- SteepleWords$Text.command -/
def FX5_command (b : Nat) (σ : qH) : Option (Int32) :=
  b1 (gC σ b 3) fun _ =>
  b1 (gI σ b 3 3) fun v1 =>
  some v1
/-- SteepleWords$Parish.isSteeple -/
def FX2_isSteeple (p0 : Int32) (σ : qH) : Option (Int32) :=
  b1 ((
      if p0 < (0 : Int32) then
        some (0 : Int32)
      else
        if (3 : Int32) ≤ p0 then
          some (0 : Int32)
        else
          some (1 : Int32)
    ) : Option (Int32)) fun x1 =>
  if x1 = 0 ∨ x1 = 1 then
    some x1
  else none
/-- SteepleWords$Parish.isTeller -/
def FX2_isTeller (p0 : Int32) (σ : qH) : Option (Int32) :=
  b1 ((
      if p0 < (0 : Int32) then
        some (0 : Int32)
      else
        if (6 : Int32) ≤ p0 then
          some (0 : Int32)
        else
          some (1 : Int32)
    ) : Option (Int32)) fun x1 =>
  if x1 = 0 ∨ x1 = 1 then
    some x1
  else none
/-- SteepleWords$Parish.fitsFarSide -/
def FX2_fitsFarSide (p0 : Int32) (p1 : Int32) (σ : qH) : Option (Int32) :=
  b1 ((
      if p0 < (1 : Int32) then
        some (0 : Int32)
      else
        if (400 : Int32) < p0 then
          some (0 : Int32)
        else
          if p1 < (0 : Int32) then
            some (0 : Int32)
          else
            if (20 : Int32) < p1 then
              some (0 : Int32)
            else
              some (1 : Int32)
    ) : Option (Int32)) fun x1 =>
  if x1 = 0 ∨ x1 = 1 then
    some x1
  else none
/-- SteepleWords$Parish.isHeight -/
def FX2_isHeight (p0 : Int32) (σ : qH) : Option (Int32) :=
  b1 ((
      if p0 < (1 : Int32) then
        some (0 : Int32)
      else
        if (999 : Int32) < p0 then
          some (0 : Int32)
        else
          some (1 : Int32)
    ) : Option (Int32)) fun x1 =>
  if x1 = 0 ∨ x1 = 1 then
    some x1
  else none
/-- SteepleWords$Parish.fits -/
def FX2_fits (p0 : Int32) (p1 : Int32) (p2 : Int32) (p3 : Int32) (p4 : Int32) (σ : qH) : Option (Int32) :=
  if p0 = (0 : Int32) then
    b1 ((
        if p1 < (1 : Int32) then
          some (0 : Int32)
        else
          if (20 : Int32) < p1 then
            some (0 : Int32)
          else
            if p2 < (1 : Int32) then
              some (0 : Int32)
            else
              if (40 : Int32) < p2 then
                some (0 : Int32)
              else
                b1 (FX2_fitsFarSide p3 p4 σ) fun v3 =>
                if v3 = 0 then
                  some (0 : Int32)
                else
                  some (1 : Int32)
      ) : Option (Int32)) fun x1 =>
    if x1 = 0 ∨ x1 = 1 then
      some x1
    else none
  else
  if p0 = (1 : Int32) then
    b1 ((
        if p1 < (1 : Int32) then
          some (0 : Int32)
        else
          if (9 : Int32) < p1 then
            some (0 : Int32)
          else
            if p2 < (1 : Int32) then
              some (0 : Int32)
            else
              if (60 : Int32) < p2 then
                some (0 : Int32)
              else
                b1 (FX2_fitsFarSide p3 p4 σ) fun v8 =>
                if v8 = 0 then
                  some (0 : Int32)
                else
                  some (1 : Int32)
      ) : Option (Int32)) fun x6 =>
    if x6 = 0 ∨ x6 = 1 then
      some x6
    else none
  else
  if p0 = (2 : Int32) then
    b1 (FX2_isHeight p1 σ) fun v12 =>
    b1 ((
        if v12 = 0 then
          some (0 : Int32)
        else
          b1 (FX2_isHeight p2 σ) fun v15 =>
          if v15 = 0 then
            some (0 : Int32)
          else
            if p2 < p1 then
              some (0 : Int32)
            else
              if p3 = 0 then
                if p4 = 0 then
                  some (1 : Int32)
                else
                  some (0 : Int32)
              else
                some (0 : Int32)
      ) : Option (Int32)) fun x13 =>
    if x13 = 0 ∨ x13 = 1 then
      some x13
    else none
  else
  some (0 : Int32)
/-- SteepleWords$Parish.isFull -/
def FX2_isFull (b : Nat) (σ : qH) : Option (Int32) :=
  b1 (gC σ b 2) fun _ =>
  b1 (gI σ b 2 6) fun v1 =>
  b1 ((
      if v1 < (16 : Int32) then
        some (0 : Int32)
      else
        some (1 : Int32)
    ) : Option (Int32)) fun x3 =>
  if x3 = 0 ∨ x3 = 1 then
    some x3
  else none
/-- java/lang/Math.floorDiv -/
def FJ9_floorDiv_7cf53 (p0 : Int32) (p1 : Int32) (σ : qH) : Option (Int32) :=
  if p1 = 0 then none else
  if 0 ≤ (p0 ^^^ p1) then
    some (p0 / p1)
  else
    if ((p0 / p1) * p1) = p0 then
      some (p0 / p1)
    else
      some ((p0 / p1) - (1 : Int32))
/-- SteepleWords$Parish.leastHeight -/
def FX2_leastHeight (p0 : Int32) (p1 : Int32) (p2 : Int32) (σ : qH) : Option (Int32) :=
  b1 ((
      if (1 : Int32) ≤ p1 then
        b1 (FJ9_floorDiv_7cf53 (p0 * p2) p1 σ) fun v3 =>
        some v3
      else
        some (1 : Int32)
    ) : Option (Int32)) fun x1 =>
  some x1
/-- java/lang/Math.min -/
def FJ9_min_7cf53 (p0 : Int32) (p1 : Int32) (σ : qH) : Option (Int32) :=
  b1 ((
      if p1 < p0 then
        some p1
      else
        some p0
    ) : Option (Int32)) fun x1 =>
  some x1
/-- java/lang/Math.max -/
def FJ9_max_7cf53 (p0 : Int32) (p1 : Int32) (σ : qH) : Option (Int32) :=
  b1 ((
      if p0 < p1 then
        some p1
      else
        some p0
    ) : Option (Int32)) fun x1 =>
  some x1
/-- SteepleWords$Parish.withinFeet -/
def FX2_withinFeet (p0 : Int32) (σ : qH) : Option (Int32) :=
  b1 (FJ9_min_7cf53 (999 : Int32) p0 σ) fun v2 =>
  b1 (FJ9_max_7cf53 (1 : Int32) v2 σ) fun v4 =>
  some v4
/-- SteepleWords$Parish.greatestHeight -/
def FX2_greatestHeight (p0 : Int32) (p1 : Int32) (p2 : Int32) (σ : qH) : Option (Int32) :=
  b1 ((
      if (1 : Int32) ≤ p1 then
        if p1 = 0 then none else
        some ((((p0 * p2) + p1) - (1 : Int32)) / p1)
      else
        some (1 : Int32)
    ) : Option (Int32)) fun x1 =>
  some x1
/-- SteepleWords$Parish.addMeasure -/
def FX2_addMeasure (b : Nat) (p0 : Int32) (p1 : Int32) (p2 : Int32) (p3 : Int32) (p4 : Int32) (p5 : Int32) (p6 : Int32) (σ : qH) : Option (Int32 × qH) :=
  b1 (gC σ b 2) fun _ =>
  b1 (gI σ b 2 6) fun v1 =>
  b1 (gR σ b 2 0) fun r3 =>
  b1 (sI σ r3 ((v1 * (9 : Int32)) + (0 : Int32)) p0) fun s5 =>
  b1 (gR s5 b 2 0) fun r7 =>
  b1 (sI s5 r7 ((v1 * (9 : Int32)) + (1 : Int32)) p1) fun s9 =>
  b1 (gR s9 b 2 0) fun r11 =>
  b1 (sI s9 r11 ((v1 * (9 : Int32)) + (2 : Int32)) p2) fun s13 =>
  b1 (gR s13 b 2 0) fun r15 =>
  b1 (sI s13 r15 ((v1 * (9 : Int32)) + (3 : Int32)) p3) fun s17 =>
  b1 (gR s17 b 2 0) fun r19 =>
  b1 (sI s17 r19 ((v1 * (9 : Int32)) + (4 : Int32)) p4) fun s21 =>
  b1 (gR s21 b 2 0) fun r23 =>
  b1 (sI s21 r23 ((v1 * (9 : Int32)) + (5 : Int32)) p5) fun s25 =>
  b1 (gR s25 b 2 0) fun r27 =>
  b1 (sI s25 r27 ((v1 * (9 : Int32)) + (6 : Int32)) p6) fun s29 =>
  b1 (gR s29 b 2 0) fun r31 =>
  b1 ((
      if p2 = (2 : Int32) then
        some p3
      else
        b1 (FX2_leastHeight p3 p4 (p5 - p6) s29) fun v35 =>
        some v35
    ) : Option (Int32)) fun x33 =>
  b1 (FX2_withinFeet x33 s29) fun v37 =>
  b1 (sI s29 r31 ((v1 * (9 : Int32)) + (7 : Int32)) v37) fun s38 =>
  b1 (gR s38 b 2 0) fun r40 =>
  b1 ((
      if p2 = (2 : Int32) then
        some p4
      else
        b1 (FX2_greatestHeight p3 p4 (p5 + p6) s38) fun v44 =>
        some v44
    ) : Option (Int32)) fun x42 =>
  b1 (FX2_withinFeet x42 s38) fun v46 =>
  b1 (sI s38 r40 ((v1 * (9 : Int32)) + (8 : Int32)) v46) fun s47 =>
  b1 (gI s47 b 2 6) fun v49 =>
  b1 (gP s47 b 2 6 (.int (v49 + (1 : Int32)))) fun s51 =>
  b1 (gI s51 b 2 7) fun v53 =>
  b1 (gP s51 b 2 7 (.int (v53 + (1 : Int32)))) fun s55 =>
  b1 (gI s55 b 2 6) fun v57 =>
  some ((v57 - (1 : Int32)), s55)
/-- SteepleWords$Parish.tryMeasure -/
def FX2_tryMeasure (b : Nat) (p0 : Int32) (p1 : Int32) (p2 : Int32) (p3 : Int32) (p4 : Int32) (p5 : Int32) (p6 : Int32) (σ : qH) : Option (Int32 × qH) :=
  b1 (gC σ b 2) fun _ =>
  b1 (FX2_isSteeple p0 σ) fun v2 =>
  if v2 = 0 then
    some ((0 : Int32), σ)
  else
    b1 (FX2_isTeller p1 σ) fun v4 =>
    if v4 = 0 then
      some ((0 : Int32), σ)
    else
      b1 (FX2_fits p2 p3 p4 p5 p6 σ) fun v6 =>
      if v6 = 0 then
        some ((0 : Int32), σ)
      else
        b1 (FX2_isFull b σ) fun v8 =>
        if v8 = 0 then
          b2 (FX2_addMeasure b p0 p1 p2 p3 p4 p5 p6 σ) fun v10 s11 =>
          some ((1 : Int32), s11)
        else
          some ((0 : Int32), σ)
/-- SteepleWords$Parish.hasMeasure -/
def FX2_hasMeasure (b : Nat) (p0 : Int32) (σ : qH) : Option (Int32) :=
  b1 (gC σ b 2) fun _ =>
  b1 ((
      if p0 < (0 : Int32) then
        some (0 : Int32)
      else
        b1 (gI σ b 2 6) fun v2 =>
        if v2 ≤ p0 then
          some (0 : Int32)
        else
          some (1 : Int32)
    ) : Option (Int32)) fun x1 =>
  if x1 = 0 ∨ x1 = 1 then
    some x1
  else none
/-- SteepleWords$Parish.removeMeasure -/
def FX2_removeMeasure (b : Nat) (p0 : Int32) (σ : qH) : Option (Int32 × qH) :=
  b1 (gC σ b 2) fun _ =>
  b1 (gI σ b 2 6) fun v1 =>
  b1 (gR σ b 2 0) fun r3 =>
  b1 (gR σ b 2 0) fun r5 =>
  b1 (sC σ r3 ((p0 + (1 : Int32)) * (9 : Int32)) r5 (p0 * (9 : Int32)) (((v1 - (1 : Int32)) - p0) * (9 : Int32))) fun s7 =>
  b1 (gI s7 b 2 6) fun v9 =>
  b1 (gP s7 b 2 6 (.int (v9 - (1 : Int32)))) fun s11 =>
  b1 (gI s11 b 2 6) fun v13 =>
  some (v13, s11)
/-- SteepleWords$Parish.tryDrop -/
def FX2_tryDrop (b : Nat) (p0 : Int32) (σ : qH) : Option (Int32 × qH) :=
  b1 (gC σ b 2) fun _ =>
  b1 (FX2_hasMeasure b p0 σ) fun v2 =>
  if v2 = 0 then
    some ((0 : Int32), σ)
  else
    b2 (FX2_removeMeasure b p0 σ) fun v4 s5 =>
    some ((1 : Int32), s5)
/-- SteepleWords$Parish.isTrust -/
def FX2_isTrust (p0 : Int32) (σ : qH) : Option (Int32) :=
  b1 ((
      if p0 < (0 : Int32) then
        some (0 : Int32)
      else
        if (9 : Int32) < p0 then
          some (0 : Int32)
        else
          some (1 : Int32)
    ) : Option (Int32)) fun x1 =>
  if x1 = 0 ∨ x1 = 1 then
    some x1
  else none
/-- SteepleWords$Parish.changeTrust -/
def FX2_changeTrust (b : Nat) (p0 : Int32) (p1 : Int32) (σ : qH) : Option (Int32 × qH) :=
  b1 (gC σ b 2) fun _ =>
  b1 (gR σ b 2 1) fun r1 =>
  b1 (aI σ r1 p0) fun v3 =>
  b1 (gR σ b 2 1) fun r5 =>
  b1 (sI σ r5 p0 p1) fun s7 =>
  some (v3, s7)
/-- SteepleWords$Parish.tryTrust -/
def FX2_tryTrust (b : Nat) (p0 : Int32) (p1 : Int32) (σ : qH) : Option (Int32 × qH) :=
  b1 (gC σ b 2) fun _ =>
  b1 (FX2_isTeller p0 σ) fun v2 =>
  if v2 = 0 then
    some ((0 : Int32), σ)
  else
    b1 (FX2_isTrust p1 σ) fun v4 =>
    if v4 = 0 then
      some ((0 : Int32), σ)
    else
      b2 (FX2_changeTrust b p0 p1 σ) fun v6 s7 =>
      some ((1 : Int32), s7)
/-- SteepleWords$Parish.number -/
def FX2_number (b : Nat) (p0 : Int32) (p1 : Int32) (σ : qH) : Option (Int32) :=
  b1 (gC σ b 2) fun _ =>
  b1 (gR σ b 2 0) fun r1 =>
  b1 (aI σ r1 ((p0 * (9 : Int32)) + p1)) fun v3 =>
  some v3
/-- SteepleWords$Parish.feetApart -/
def FX2_feetApart (b : Nat) (p0 : Int32) (p1 : Int32) (σ : qH) : Option (Int32) :=
  b1 (gC σ b 2) fun _ =>
  b1 (FX2_number b p0 (0 : Int32) σ) fun v2 =>
  b1 (FX2_number b p1 (0 : Int32) σ) fun v4 =>
  if v2 = v4 then
    b1 (FX2_number b p0 (7 : Int32) σ) fun v6 =>
    b1 (FX2_number b p1 (8 : Int32) σ) fun v8 =>
    b1 (FX2_number b p1 (7 : Int32) σ) fun v10 =>
    b1 (FX2_number b p0 (8 : Int32) σ) fun v12 =>
    b1 (FJ9_max_7cf53 (v6 - v8) (v10 - v12) σ) fun v14 =>
    b1 (FJ9_max_7cf53 (0 : Int32) v14 σ) fun v16 =>
    some v16
  else
    some (-1 : Int32)
/-- SteepleWords$Parish.matters -/
def FX2_matters (b : Nat) (p0 : Int32) (p1 : Int32) (σ : qH) : Option (Int32) :=
  b1 (gC σ b 2) fun _ =>
  b1 (FX2_number b p0 (1 : Int32) σ) fun v2 =>
  b1 (FX2_number b p1 (1 : Int32) σ) fun v4 =>
  b1 ((
      if v2 = v4 then
        some (0 : Int32)
      else
        b1 (FX2_feetApart b p0 p1 σ) fun v7 =>
        b1 (gR σ b 2 5) fun r8 =>
        b1 (aI σ r8 (1 : Int32)) fun v10 =>
        if v7 ≤ v10 then
          some (0 : Int32)
        else
          some (1 : Int32)
    ) : Option (Int32)) fun x5 =>
  if x5 = 0 ∨ x5 = 1 then
    some x5
  else none
/-- SteepleWords$Parish.weight -/
def FX2_weight (b : Nat) (p0 : Int32) (σ : qH) : Option (Int32) :=
  b1 (gC σ b 2) fun _ =>
  b1 (gR σ b 2 1) fun r1 =>
  b1 (FX2_number b p0 (1 : Int32) σ) fun v4 =>
  b1 (aI σ r1 v4) fun v5 =>
  b1 (FX2_number b p0 (2 : Int32) σ) fun v8 =>
  b1 ((
      if v8 = (2 : Int32) then
        some (0 : Int32)
      else
        b1 (gR σ b 2 5) fun r10 =>
        b1 (aI σ r10 (0 : Int32)) fun v12 =>
        some v12
    ) : Option (Int32)) fun x9 =>
  some (v5 + x9)
/-- SteepleWords$Parish.shameLighter -/
def FX2_shameLighter (b : Nat) (p0 : Int32) (p1 : Int32) (σ : qH) : Option (qH) :=
  b1 (gC σ b 2) fun _ =>
  b1 (FX2_weight b p0 σ) fun v2 =>
  b1 (FX2_weight b p1 σ) fun v4 =>
  b1 ((
      if (v2 - v4) = 0 then
        some σ
      else
        b1 ((
            if 0 ≤ (v2 - v4) then
              some p1
            else
              some p0
          ) : Option (Int32)) fun x6 =>
        b1 (FX2_number b x6 (1 : Int32) σ) fun v8 =>
        b1 (gR σ b 2 1) fun r9 =>
        b1 (aI σ r9 v8) fun v11 =>
        if v11 ≤ 0 then
          some σ
        else
          b1 (gR σ b 2 1) fun r13 =>
          b1 (aI σ r13 v8) fun v15 =>
          b1 (sI σ r13 v8 (v15 - (1 : Int32))) fun s17 =>
          b1 (gI s17 b 2 10) fun v19 =>
          b1 (gP s17 b 2 10 (.int (v19 + (1 : Int32)))) fun s21 =>
          some s21
    ) : Option (qH)) fun s5 =>
  some s5
/-- SteepleWords$Parish.passEvening -/
def FX2_passEvening_L19 (a0 : Nat) (a1 : Int32) (a2 : Int32) : Nat → Int32 → qH → Option (qH)
  | 0, _, _ => none
  | q + 1, y3, σ =>
    b1 (gI σ a0 2 6) fun v5 =>
    if v5 ≤ y3 then
      some σ
    else
      b1 (FX2_matters a0 a2 y3 σ) fun v8 =>
      b1 ((
          if v8 = 0 then
            some σ
          else
            b1 (FX2_shameLighter a0 a2 y3 σ) fun s11 =>
            some s11
        ) : Option (qH)) fun s9 =>
      FX2_passEvening_L19 a0 a1 a2 q (y3 + (1 : Int32)) s9
def FX2_passEvening_L7 (a0 : Nat) (a1 : Int32) : Nat → Int32 → qH → Option (qH)
  | 0, _, _ => none
  | q + 1, y2, σ =>
    b1 (gI σ a0 2 6) fun v3 =>
    if v3 ≤ y2 then
      some σ
    else
      b1 (FX2_passEvening_L19 a0 a1 y2 qfuel (y2 + (1 : Int32)) σ) fun s13 =>
      FX2_passEvening_L7 a0 a1 q (y2 + (1 : Int32)) s13
def FX2_passEvening (b : Nat) (σ : qH) : Option (Int32 × qH) :=
  b1 (gC σ b 2) fun _ =>
  b1 (gI σ b 2 10) fun v1 =>
  b1 (FX2_passEvening_L7 b v1 qfuel (0 : Int32) σ) fun s15 =>
  b1 (gI s15 b 2 8) fun v16 =>
  b1 (gP s15 b 2 8 (.int (v16 + (1 : Int32)))) fun s18 =>
  b1 (gI s18 b 2 10) fun v20 =>
  some ((v20 - v1), s18)
/-- SteepleWords$Parish.isOf -/
def FX2_isOf (b : Nat) (p0 : Int32) (p1 : Int32) (σ : qH) : Option (Int32) :=
  b1 (gC σ b 2) fun _ =>
  b1 (FX2_number b p0 (0 : Int32) σ) fun v2 =>
  b1 ((
      if v2 = p1 then
        some (1 : Int32)
      else
        some (0 : Int32)
    ) : Option (Int32)) fun x3 =>
  if x3 = 0 ∨ x3 = 1 then
    some x3
  else none
/-- SteepleWords$Parish.tells -/
def FX2_tells (b : Nat) (p0 : Int32) (p1 : Int32) (σ : qH) : Option (Int32) :=
  b1 (gC σ b 2) fun _ =>
  b1 (FX2_number b p0 (7 : Int32) σ) fun v2 =>
  b1 ((
      if p1 < v2 then
        some (0 : Int32)
      else
        b1 (FX2_number b p0 (8 : Int32) σ) fun v5 =>
        if v5 < p1 then
          some (0 : Int32)
        else
          some (1 : Int32)
    ) : Option (Int32)) fun x3 =>
  if x3 = 0 ∨ x3 = 1 then
    some x3
  else none
/-- SteepleWords$Parish.judge -/
def FX2_judge (b : Nat) (p0 : Int32) (p1 : Int32) (σ : qH) : Option (qH) :=
  b1 (gC σ b 2) fun _ =>
  b1 ((
      if p1 = 0 then
        b1 (gR σ b 2 3) fun r2 =>
        b1 (aI σ r2 p0) fun v4 =>
        b1 (sI σ r2 p0 (v4 + (1 : Int32))) fun s6 =>
        b1 (gR s6 b 2 1) fun r8 =>
        b1 (gR s6 b 2 1) fun r10 =>
        b1 (aI s6 r10 p0) fun v12 =>
        b1 (FJ9_max_7cf53 (0 : Int32) (v12 - (1 : Int32)) s6) fun v15 =>
        b1 (sI s6 r8 p0 v15) fun s16 =>
        some s16
      else
        b1 (gR σ b 2 2) fun r18 =>
        b1 (aI σ r18 p0) fun v20 =>
        b1 (sI σ r18 p0 (v20 + (1 : Int32))) fun s22 =>
        b1 (gR s22 b 2 1) fun r24 =>
        b1 (gR s22 b 2 1) fun r26 =>
        b1 (aI s22 r26 p0) fun v28 =>
        b1 (FJ9_min_7cf53 (9 : Int32) (v28 + (1 : Int32)) s22) fun v31 =>
        b1 (sI s22 r24 p0 v31) fun s32 =>
        some s32
    ) : Option (qH)) fun s1 =>
  some s1
/-- SteepleWords$Parish.removeMeasuresOf -/
def FX2_removeMeasuresOf_L7 (a0 : Nat) (a1 : Int32) : Nat → Int32 → qH → Option (qH)
  | 0, _, _ => none
  | q + 1, y2, σ =>
    if y2 < 0 then
      some σ
    else
      b1 (FX2_isOf a0 y2 a1 σ) fun v4 =>
      b1 ((
          if v4 = 0 then
            some σ
          else
            b2 (FX2_removeMeasure a0 y2 σ) fun v7 s8 =>
            some s8
        ) : Option (qH)) fun s5 =>
      FX2_removeMeasuresOf_L7 a0 a1 q (y2 + (-1 : Int32)) s5
def FX2_removeMeasuresOf (b : Nat) (p0 : Int32) (σ : qH) : Option (qH) :=
  b1 (gC σ b 2) fun _ =>
  b1 (gI σ b 2 6) fun v1 =>
  b1 (FX2_removeMeasuresOf_L7 b p0 qfuel (v1 - (1 : Int32)) σ) fun s10 =>
  some s10
/-- SteepleWords$Parish.surveySteeple -/
def FX2_surveySteeple_L5 (a0 : Nat) (a1 : Int32) (a2 : Int32) : Nat → Int32 → Int32 → qH → Option (Int32 × qH)
  | 0, _, _, _ => none
  | q + 1, y3, y4, σ =>
    b1 (gI σ a0 2 6) fun v1 =>
    if v1 ≤ y4 then
      some (y3, σ)
    else
      b1 (FX2_isOf a0 y4 a1 σ) fun v4 =>
      b2 ((
          if v4 = 0 then
            some (y3, σ)
          else
            b1 (FX2_tells a0 y4 a2 σ) fun v8 =>
            b1 (FX2_number a0 y4 (1 : Int32) σ) fun v10 =>
            b1 (FX2_judge a0 v10 v8 σ) fun s12 =>
            b1 ((
                if v8 = 0 then
                  some (0 : Int32)
                else
                  some (1 : Int32)
              ) : Option (Int32)) fun x13 =>
            some ((y3 + x13), s12)
        ) : Option (Int32 × qH)) fun x5 s6 =>
      FX2_surveySteeple_L5 a0 a1 a2 q x5 (y4 + (1 : Int32)) s6
def FX2_surveySteeple (b : Nat) (p0 : Int32) (p1 : Int32) (σ : qH) : Option (Int32 × qH) :=
  b1 (gC σ b 2) fun _ =>
  b2 (FX2_surveySteeple_L5 b p0 p1 qfuel (0 : Int32) (0 : Int32) σ) fun x16 s17 =>
  b1 (FX2_removeMeasuresOf b p0 s17) fun s19 =>
  b1 (gR s19 b 2 4) fun r20 =>
  b1 (sI s19 r20 p0 p1) fun s22 =>
  b1 (gI s22 b 2 9) fun v24 =>
  b1 (gP s22 b 2 9 (.int (v24 + (1 : Int32)))) fun s26 =>
  some (x16, s26)
/-- SteepleWords$Parish.trySurvey -/
def FX2_trySurvey (b : Nat) (p0 : Int32) (p1 : Int32) (σ : qH) : Option (Int32 × qH) :=
  b1 (gC σ b 2) fun _ =>
  b1 (FX2_isSteeple p0 σ) fun v2 =>
  if v2 = 0 then
    some ((0 : Int32), σ)
  else
    b1 (FX2_isHeight p1 σ) fun v4 =>
    if v4 = 0 then
      some ((0 : Int32), σ)
    else
      b2 (FX2_surveySteeple b p0 p1 σ) fun v6 s7 =>
      some ((1 : Int32), s7)
/-- SteepleWords.doCommandOfText -/
def FX6_doCommandOfText (b : Nat) (σ : qH) : Option (Int32 × qH) :=
  b1 (gC σ b 4) fun _ =>
  b1 (gR σ b 4 5) fun r1 =>
  b1 (FX5_number r1 (0 : Int32) σ) fun v4 =>
  b1 (gR σ b 4 5) fun r5 =>
  b1 (FX5_number r5 (1 : Int32) σ) fun v8 =>
  b1 (gR σ b 4 5) fun r9 =>
  b1 (FX5_command r9 σ) fun v12 =>
  if v12 = (100 : Int32) then
    b1 (gR σ b 4 0) fun r13 =>
    b2 (FX2_tryDrop r13 v4 σ) fun v16 s17 =>
    if v16 = 0 ∨ v16 = 1 then
      some (v16, s17)
    else none
  else
  if v12 = (111 : Int32) then
    b1 (gR σ b 4 0) fun r19 =>
    b1 (gR σ b 4 5) fun r21 =>
    b1 (FX5_number r21 (2 : Int32) σ) fun v24 =>
    b1 (gR σ b 4 5) fun r25 =>
    b1 (FX5_number r25 (3 : Int32) σ) fun v28 =>
    b1 (gR σ b 4 5) fun r29 =>
    b1 (FX5_number r29 (4 : Int32) σ) fun v32 =>
    b1 (gR σ b 4 5) fun r33 =>
    b1 (FX5_number r33 (5 : Int32) σ) fun v36 =>
    b2 (FX2_tryMeasure r19 v4 v8 (1 : Int32) v24 v28 v32 v36 σ) fun v38 s39 =>
    if v38 = 0 ∨ v38 = 1 then
      some (v38, s39)
    else none
  else
  if v12 = (113 : Int32) then
    b1 (gR σ b 4 0) fun r41 =>
    b2 (FX2_passEvening r41 σ) fun v44 s45 =>
    some ((1 : Int32), s45)
  else
  if v12 = (115 : Int32) then
    b1 (gR σ b 4 0) fun r47 =>
    b1 (gR σ b 4 5) fun r49 =>
    b1 (FX5_number r49 (2 : Int32) σ) fun v52 =>
    b1 (gR σ b 4 5) fun r53 =>
    b1 (FX5_number r53 (3 : Int32) σ) fun v56 =>
    b1 (gR σ b 4 5) fun r57 =>
    b1 (FX5_number r57 (4 : Int32) σ) fun v60 =>
    b1 (gR σ b 4 5) fun r61 =>
    b1 (FX5_number r61 (5 : Int32) σ) fun v64 =>
    b2 (FX2_tryMeasure r47 v4 v8 (0 : Int32) v52 v56 v60 v64 σ) fun v66 s67 =>
    if v66 = 0 ∨ v66 = 1 then
      some (v66, s67)
    else none
  else
  if v12 = (116 : Int32) then
    b1 (gR σ b 4 0) fun r69 =>
    b2 (FX2_tryTrust r69 v4 v8 σ) fun v72 s73 =>
    if v72 = 0 ∨ v72 = 1 then
      some (v72, s73)
    else none
  else
  if v12 = (118 : Int32) then
    b1 (gR σ b 4 0) fun r75 =>
    b2 (FX2_trySurvey r75 v4 v8 σ) fun v78 s79 =>
    if v78 = 0 ∨ v78 = 1 then
      some (v78, s79)
    else none
  else
  if v12 = (119 : Int32) then
    b1 (gR σ b 4 0) fun r81 =>
    b1 (gR σ b 4 5) fun r83 =>
    b1 (FX5_number r83 (2 : Int32) σ) fun v86 =>
    b1 (gR σ b 4 5) fun r87 =>
    b1 (FX5_number r87 (3 : Int32) σ) fun v90 =>
    b2 (FX2_tryMeasure r81 v4 v8 (2 : Int32) v86 v90 (0 : Int32) (0 : Int32) σ) fun v92 s93 =>
    if v92 = 0 ∨ v92 = 1 then
      some (v92, s93)
    else none
  else
  some ((0 : Int32), σ)
/-- SteepleWords.load -/
def FX6_load_L37 (tst : Nat → Nat) (a0 : Nat) : Nat → Int32 → qH → Option (qH)
  | 0, _, _ => none
  | q + 1, y1, σ =>
    b1 (gR σ a0 4 3) fun r14 =>
    b1 (aL σ r14) fun v16 =>
    if v16 ≤ y1 then
      some σ
    else
      b1 (gR σ a0 4 3) fun r18 =>
      b1 (sZ σ r18 y1 (0 : Int32)) fun s20 =>
      FX6_load_L37 tst a0 q (y1 + (1 : Int32)) s20
def FX6_load_L71 (tst : Nat → Nat) (a0 : Nat) : Nat → Int32 → Int32 → qH → Option (Int32 × qH)
  | 0, _, _, _ => none
  | q + 1, y1, y2, σ =>
    if (120 : Int32) ≤ y2 then
      some (y1, σ)
    else
      b1 (gR σ a0 4 5) fun r28 =>
      b2 (FX5_readCommand tst r28 σ) fun v31 s32 =>
      if v31 = 0 then
        some (y1, s32)
      else
        b2 (FX6_doCommandOfText a0 s32) fun v34 s35 =>
        b1 ((
            if v34 = 0 then
              some (y1 + (1 : Int32))
            else
              some y1
          ) : Option (Int32)) fun x36 =>
        FX6_load_L71 tst a0 q x36 (y2 + (1 : Int32)) s35
def FX6_load (tst : Nat → Nat) (b : Nat) (σ : qH) : Option ((Int32 × qH) ⊕ (String × qH)) :=
  b1 (gC σ b 4) fun _ =>
  b1 (gR σ b 4 5) fun r1 =>
  b2 (FX5_findError tst r1 σ) fun v4 s5 =>
  if v4 = (-1 : Int32) then
    b1 (gR s5 b 4 0) fun r6 =>
    b1 (FX2_makeNew r6 s5) fun s9 =>
    b1 (gR s9 b 4 4) fun r10 =>
    b1 (FX1_forget r10 s9) fun s13 =>
    b1 (FX6_load_L37 tst b qfuel (0 : Int32) s13) fun s22 =>
    b1 (gR s22 b 4 5) fun r23 =>
    b2 (FX5_readHead r23 s22) fun v26 s27 =>
    b2 (FX6_load_L71 tst b qfuel (0 : Int32) (0 : Int32) s27) fun x38 s39 =>
    some (.inl (x38, s39))
  else
    some (.inr ("java/lang/IllegalStateException", s5))
/-- SteepleWords$Parish.count -/
def FX2_count (b : Nat) (σ : qH) : Option (Int32) :=
  b1 (gC σ b 2) fun _ =>
  b1 (gI σ b 2 6) fun v1 =>
  some v1
/-- SteepleWords$Parish.came -/
def FX2_came (b : Nat) (σ : qH) : Option (Int32) :=
  b1 (gC σ b 2) fun _ =>
  b1 (gI σ b 2 7) fun v1 =>
  some v1
/-- SteepleWords$Parish.evenings -/
def FX2_evenings (b : Nat) (σ : qH) : Option (Int32) :=
  b1 (gC σ b 2) fun _ =>
  b1 (gI σ b 2 8) fun v1 =>
  some v1
/-- SteepleWords$Parish.surveys -/
def FX2_surveys (b : Nat) (σ : qH) : Option (Int32) :=
  b1 (gC σ b 2) fun _ =>
  b1 (gI σ b 2 9) fun v1 =>
  some v1
/-- SteepleWords$Parish.quarrel -/
def FX2_quarrel (b : Nat) (p0 : Int32) (p1 : Int32) (σ : qH) : Option (Int32) :=
  b1 (gC σ b 2) fun _ =>
  b1 (FX2_number b p0 (1 : Int32) σ) fun v2 =>
  b1 (FX2_number b p1 (1 : Int32) σ) fun v4 =>
  b1 ((
      if v2 = v4 then
        some (0 : Int32)
      else
        b1 (FX2_feetApart b p0 p1 σ) fun v7 =>
        if v7 ≤ 0 then
          some (0 : Int32)
        else
          some (1 : Int32)
    ) : Option (Int32)) fun x5 =>
  if x5 = 0 ∨ x5 = 1 then
    some x5
  else none
/-- SteepleWords$Parish.pairsThatQuarrel -/
def FX2_pairsThatQuarrel_L16 (a0 : Nat) (a2 : Int32) (σ : qH) : Nat → Int32 → Int32 → Option (Int32)
  | 0, _, _ => none
  | q + 1, y1, y3 =>
    b1 (gI σ a0 2 6) fun v3 =>
    if v3 ≤ y3 then
      some y1
    else
      b1 (FX2_quarrel a0 a2 y3 σ) fun v6 =>
      b1 ((
          if v6 = 0 then
            some (0 : Int32)
          else
            some (1 : Int32)
        ) : Option (Int32)) fun x7 =>
      FX2_pairsThatQuarrel_L16 a0 a2 σ q (y1 + x7) (y3 + (1 : Int32))
def FX2_pairsThatQuarrel_L4 (a0 : Nat) (σ : qH) : Nat → Int32 → Int32 → Option (Int32)
  | 0, _, _ => none
  | q + 1, y1, y2 =>
    b1 (gI σ a0 2 6) fun v1 =>
    if v1 ≤ y2 then
      some y1
    else
      b1 (FX2_pairsThatQuarrel_L16 a0 y2 σ qfuel y1 (y2 + (1 : Int32))) fun x9 =>
      FX2_pairsThatQuarrel_L4 a0 σ q x9 (y2 + (1 : Int32))
def FX2_pairsThatQuarrel (b : Nat) (σ : qH) : Option (Int32) :=
  b1 (gC σ b 2) fun _ =>
  b1 (FX2_pairsThatQuarrel_L4 b σ qfuel (0 : Int32) (0 : Int32)) fun x11 =>
  some x11
/-- SteepleWords$Parish.pairsThatMatter -/
def FX2_pairsThatMatter_L16 (a0 : Nat) (a2 : Int32) (σ : qH) : Nat → Int32 → Int32 → Option (Int32)
  | 0, _, _ => none
  | q + 1, y1, y3 =>
    b1 (gI σ a0 2 6) fun v3 =>
    if v3 ≤ y3 then
      some y1
    else
      b1 (FX2_matters a0 a2 y3 σ) fun v6 =>
      b1 ((
          if v6 = 0 then
            some (0 : Int32)
          else
            some (1 : Int32)
        ) : Option (Int32)) fun x7 =>
      FX2_pairsThatMatter_L16 a0 a2 σ q (y1 + x7) (y3 + (1 : Int32))
def FX2_pairsThatMatter_L4 (a0 : Nat) (σ : qH) : Nat → Int32 → Int32 → Option (Int32)
  | 0, _, _ => none
  | q + 1, y1, y2 =>
    b1 (gI σ a0 2 6) fun v1 =>
    if v1 ≤ y2 then
      some y1
    else
      b1 (FX2_pairsThatMatter_L16 a0 y2 σ qfuel y1 (y2 + (1 : Int32))) fun x9 =>
      FX2_pairsThatMatter_L4 a0 σ q x9 (y2 + (1 : Int32))
def FX2_pairsThatMatter (b : Nat) (σ : qH) : Option (Int32) :=
  b1 (gC σ b 2) fun _ =>
  b1 (FX2_pairsThatMatter_L4 b σ qfuel (0 : Int32) (0 : Int32)) fun x11 =>
  some x11
/-- SteepleWords$Parish.sum -/
def FX2_sum_L10 (a2 : Nat) (a3 : Int32) (σ : qH) : Nat → Int32 → Int32 → Option (Int32)
  | 0, _, _ => none
  | q + 1, y1, y4 =>
    if a3 ≤ y4 then
      some y1
    else
      b1 (aI σ a2 y4) fun v3 =>
      FX2_sum_L10 a2 a3 σ q (y1 + v3) (y4 + (1 : Int32))
def FX2_sum (p0 : Nat) (σ : qH) : Option (Int32) :=
  b1 (aL σ p0) fun v1 =>
  b1 (FX2_sum_L10 p0 v1 σ qfuel (0 : Int32) (0 : Int32)) fun x5 =>
  some x5
/-- SteepleWords$Parish.trustOfAll -/
def FX2_trustOfAll (b : Nat) (σ : qH) : Option (Int32) :=
  b1 (gC σ b 2) fun _ =>
  b1 (gR σ b 2 1) fun r1 =>
  b1 (FX2_sum r1 σ) fun v4 =>
  some v4
/-- SteepleWords$Parish.lost -/
def FX2_lost (b : Nat) (σ : qH) : Option (Int32) :=
  b1 (gC σ b 2) fun _ =>
  b1 (gI σ b 2 10) fun v1 =>
  some v1
/-- SteepleWords$Parish.rightOfAll -/
def FX2_rightOfAll (b : Nat) (σ : qH) : Option (Int32) :=
  b1 (gC σ b 2) fun _ =>
  b1 (gR σ b 2 2) fun r1 =>
  b1 (FX2_sum r1 σ) fun v4 =>
  some v4
/-- SteepleWords$Parish.wrongOfAll -/
def FX2_wrongOfAll (b : Nat) (σ : qH) : Option (Int32) :=
  b1 (gC σ b 2) fun _ =>
  b1 (gR σ b 2 3) fun r1 =>
  b1 (FX2_sum r1 σ) fun v4 =>
  some v4
/-- SteepleWords.about -/
def FX6_about (b : Nat) (p0 : Int32) (σ : qH) : Option ((Int32) ⊕ String) :=
  b1 (gC σ b 4) fun _ =>
  b1 ((
      if p0 < (0 : Int32) then
        some (0 : Int32)
      else
        if (9 : Int32) < p0 then
          some (0 : Int32)
        else
          some (1 : Int32)
    ) : Option (Int32)) fun x1 =>
  bx (FX6_need x1 σ) fun _ =>
  if p0 = (0 : Int32) then
    b1 (gR σ b 4 0) fun r4 =>
    b1 (FX2_count r4 σ) fun v7 =>
    some (.inl v7)
  else
  if p0 = (1 : Int32) then
    b1 (gR σ b 4 0) fun r9 =>
    b1 (FX2_came r9 σ) fun v12 =>
    some (.inl v12)
  else
  if p0 = (2 : Int32) then
    b1 (gR σ b 4 0) fun r14 =>
    b1 (FX2_evenings r14 σ) fun v17 =>
    some (.inl v17)
  else
  if p0 = (3 : Int32) then
    b1 (gR σ b 4 0) fun r19 =>
    b1 (FX2_surveys r19 σ) fun v22 =>
    some (.inl v22)
  else
  if p0 = (4 : Int32) then
    b1 (gR σ b 4 0) fun r24 =>
    b1 (FX2_pairsThatQuarrel r24 σ) fun v27 =>
    some (.inl v27)
  else
  if p0 = (5 : Int32) then
    b1 (gR σ b 4 0) fun r29 =>
    b1 (FX2_pairsThatMatter r29 σ) fun v32 =>
    some (.inl v32)
  else
  if p0 = (6 : Int32) then
    b1 (gR σ b 4 0) fun r34 =>
    b1 (FX2_trustOfAll r34 σ) fun v37 =>
    some (.inl v37)
  else
  if p0 = (7 : Int32) then
    b1 (gR σ b 4 0) fun r39 =>
    b1 (FX2_lost r39 σ) fun v42 =>
    some (.inl v42)
  else
  if p0 = (8 : Int32) then
    b1 (gR σ b 4 0) fun r44 =>
    b1 (FX2_rightOfAll r44 σ) fun v47 =>
    some (.inl v47)
  else
  b1 (gR σ b 4 0) fun r49 =>
  b1 (FX2_wrongOfAll r49 σ) fun v52 =>
  some (.inl v52)
/-- SteepleWords.needMeasure -/
def FX6_needMeasure (b : Nat) (p0 : Int32) (σ : qH) : Option ((Unit) ⊕ String) :=
  b1 (gC σ b 4) fun _ =>
  b1 (gR σ b 4 0) fun r1 =>
  b1 (FX2_hasMeasure r1 p0 σ) fun v4 =>
  if v4 = 0 then
    some (.inr "java/lang/IndexOutOfBoundsException")
  else
    some (.inl ())
/-- SteepleWords$Parish.quarrelsOfMeasure -/
def FX2_quarrelsOfMeasure_L4 (a0 : Nat) (a1 : Int32) (σ : qH) : Nat → Int32 → Int32 → Option (Int32)
  | 0, _, _ => none
  | q + 1, y2, y3 =>
    b1 (gI σ a0 2 6) fun v1 =>
    if v1 ≤ y3 then
      some y2
    else
      b1 (FX2_quarrel a0 a1 y3 σ) fun v4 =>
      b1 ((
          if v4 = 0 then
            some y2
          else
            some (y2 + (1 : Int32))
        ) : Option (Int32)) fun x5 =>
      FX2_quarrelsOfMeasure_L4 a0 a1 σ q x5 (y3 + (1 : Int32))
def FX2_quarrelsOfMeasure (b : Nat) (p0 : Int32) (σ : qH) : Option (Int32) :=
  b1 (gC σ b 2) fun _ =>
  b1 (FX2_quarrelsOfMeasure_L4 b p0 σ qfuel (0 : Int32) (0 : Int32)) fun x7 =>
  some x7
/-- SteepleWords.measureOf -/
def FX6_measureOf (b : Nat) (p0 : Int32) (p1 : Int32) (σ : qH) : Option ((Int32) ⊕ String) :=
  b1 (gC σ b 4) fun _ =>
  bx (FX6_needMeasure b p0 σ) fun _ =>
  b1 ((
      if p1 < (0 : Int32) then
        some (0 : Int32)
      else
        if (10 : Int32) < p1 then
          some (0 : Int32)
        else
          some (1 : Int32)
    ) : Option (Int32)) fun x3 =>
  bx (FX6_need x3 σ) fun _ =>
  if p1 = (9 : Int32) then
    b1 (gR σ b 4 0) fun r6 =>
    b1 (FX2_weight r6 p0 σ) fun v9 =>
    some (.inl v9)
  else
  if p1 = (10 : Int32) then
    b1 (gR σ b 4 0) fun r11 =>
    b1 (FX2_quarrelsOfMeasure r11 p0 σ) fun v14 =>
    some (.inl v14)
  else
  b1 (gR σ b 4 0) fun r16 =>
  b1 (FX2_number r16 p0 p1 σ) fun v19 =>
  some (.inl v19)
/-- SteepleWords.needTeller -/
def FX6_needTeller (p0 : Int32) (σ : qH) : Option ((Unit) ⊕ String) :=
  b1 (FX2_isTeller p0 σ) fun v2 =>
  if v2 = 0 then
    some (.inr "java/lang/IndexOutOfBoundsException")
  else
    some (.inl ())
/-- SteepleWords$Parish.trustOf -/
def FX2_trustOf (b : Nat) (p0 : Int32) (σ : qH) : Option (Int32) :=
  b1 (gC σ b 2) fun _ =>
  b1 (gR σ b 2 1) fun r1 =>
  b1 (aI σ r1 p0) fun v3 =>
  some v3
/-- SteepleWords$Parish.measuresOfTeller -/
def FX2_measuresOfTeller_L4 (a0 : Nat) (a1 : Int32) (σ : qH) : Nat → Int32 → Int32 → Option (Int32)
  | 0, _, _ => none
  | q + 1, y2, y3 =>
    b1 (gI σ a0 2 6) fun v1 =>
    if v1 ≤ y3 then
      some y2
    else
      b1 (FX2_number a0 y3 (1 : Int32) σ) fun v4 =>
      b1 ((
          if v4 = a1 then
            some (1 : Int32)
          else
            some (0 : Int32)
        ) : Option (Int32)) fun x5 =>
      FX2_measuresOfTeller_L4 a0 a1 σ q (y2 + x5) (y3 + (1 : Int32))
def FX2_measuresOfTeller (b : Nat) (p0 : Int32) (σ : qH) : Option (Int32) :=
  b1 (gC σ b 2) fun _ =>
  b1 (FX2_measuresOfTeller_L4 b p0 σ qfuel (0 : Int32) (0 : Int32)) fun x7 =>
  some x7
/-- SteepleWords$Parish.rightOf -/
def FX2_rightOf (b : Nat) (p0 : Int32) (σ : qH) : Option (Int32) :=
  b1 (gC σ b 2) fun _ =>
  b1 (gR σ b 2 2) fun r1 =>
  b1 (aI σ r1 p0) fun v3 =>
  some v3
/-- SteepleWords$Parish.wrongOf -/
def FX2_wrongOf (b : Nat) (p0 : Int32) (σ : qH) : Option (Int32) :=
  b1 (gC σ b 2) fun _ =>
  b1 (gR σ b 2 3) fun r1 =>
  b1 (aI σ r1 p0) fun v3 =>
  some v3
/-- SteepleWords$Parish.quarrelsOfTeller -/
def FX2_quarrelsOfTeller_L4 (a0 : Nat) (a1 : Int32) (σ : qH) : Nat → Int32 → Int32 → Option (Int32)
  | 0, _, _ => none
  | q + 1, y2, y3 =>
    b1 (gI σ a0 2 6) fun v1 =>
    if v1 ≤ y3 then
      some y2
    else
      b1 (FX2_number a0 y3 (1 : Int32) σ) fun v4 =>
      b1 ((
          if v4 = a1 then
            b1 (FX2_quarrelsOfMeasure a0 y3 σ) fun v7 =>
            some v7
          else
            some (0 : Int32)
        ) : Option (Int32)) fun x5 =>
      FX2_quarrelsOfTeller_L4 a0 a1 σ q (y2 + x5) (y3 + (1 : Int32))
def FX2_quarrelsOfTeller (b : Nat) (p0 : Int32) (σ : qH) : Option (Int32) :=
  b1 (gC σ b 2) fun _ =>
  b1 (FX2_quarrelsOfTeller_L4 b p0 σ qfuel (0 : Int32) (0 : Int32)) fun x9 =>
  some x9
/-- SteepleWords.tellerOf -/
def FX6_tellerOf (b : Nat) (p0 : Int32) (p1 : Int32) (σ : qH) : Option ((Int32) ⊕ String) :=
  b1 (gC σ b 4) fun _ =>
  bx (FX6_needTeller p0 σ) fun _ =>
  b1 ((
      if p1 < (0 : Int32) then
        some (0 : Int32)
      else
        if (4 : Int32) < p1 then
          some (0 : Int32)
        else
          some (1 : Int32)
    ) : Option (Int32)) fun x3 =>
  bx (FX6_need x3 σ) fun _ =>
  if p1 = (0 : Int32) then
    b1 (gR σ b 4 0) fun r6 =>
    b1 (FX2_trustOf r6 p0 σ) fun v9 =>
    some (.inl v9)
  else
  if p1 = (1 : Int32) then
    b1 (gR σ b 4 0) fun r11 =>
    b1 (FX2_measuresOfTeller r11 p0 σ) fun v14 =>
    some (.inl v14)
  else
  if p1 = (2 : Int32) then
    b1 (gR σ b 4 0) fun r16 =>
    b1 (FX2_rightOf r16 p0 σ) fun v19 =>
    some (.inl v19)
  else
  if p1 = (3 : Int32) then
    b1 (gR σ b 4 0) fun r21 =>
    b1 (FX2_wrongOf r21 p0 σ) fun v24 =>
    some (.inl v24)
  else
  b1 (gR σ b 4 0) fun r26 =>
  b1 (FX2_quarrelsOfTeller r26 p0 σ) fun v29 =>
  some (.inl v29)
/-- SteepleWords.needSteeple -/
def FX6_needSteeple (p0 : Int32) (σ : qH) : Option ((Unit) ⊕ String) :=
  b1 (FX2_isSteeple p0 σ) fun v2 =>
  if v2 = 0 then
    some (.inr "java/lang/IndexOutOfBoundsException")
  else
    some (.inl ())
/-- SteepleWords$Parish.measuresOfSteeple -/
def FX2_measuresOfSteeple_L4 (a0 : Nat) (a1 : Int32) (σ : qH) : Nat → Int32 → Int32 → Option (Int32)
  | 0, _, _ => none
  | q + 1, y2, y3 =>
    b1 (gI σ a0 2 6) fun v1 =>
    if v1 ≤ y3 then
      some y2
    else
      b1 (FX2_isOf a0 y3 a1 σ) fun v4 =>
      b1 ((
          if v4 = 0 then
            some (0 : Int32)
          else
            some (1 : Int32)
        ) : Option (Int32)) fun x5 =>
      FX2_measuresOfSteeple_L4 a0 a1 σ q (y2 + x5) (y3 + (1 : Int32))
def FX2_measuresOfSteeple (b : Nat) (p0 : Int32) (σ : qH) : Option (Int32) :=
  b1 (gC σ b 2) fun _ =>
  b1 (FX2_measuresOfSteeple_L4 b p0 σ qfuel (0 : Int32) (0 : Int32)) fun x7 =>
  some x7
/-- SteepleWords$Parish.heightSurveyed -/
def FX2_heightSurveyed (b : Nat) (p0 : Int32) (σ : qH) : Option (Int32) :=
  b1 (gC σ b 2) fun _ =>
  b1 (gR σ b 2 4) fun r1 =>
  b1 (aI σ r1 p0) fun v3 =>
  some v3
/-- SteepleWords$Parish.weightOfSteeple -/
def FX2_weightOfSteeple_L4 (a0 : Nat) (a1 : Int32) (σ : qH) : Nat → Int32 → Int32 → Option (Int32)
  | 0, _, _ => none
  | q + 1, y2, y3 =>
    b1 (gI σ a0 2 6) fun v1 =>
    if v1 ≤ y3 then
      some y2
    else
      b1 (FX2_isOf a0 y3 a1 σ) fun v4 =>
      b1 ((
          if v4 = 0 then
            some (0 : Int32)
          else
            b1 (FX2_weight a0 y3 σ) fun v7 =>
            some v7
        ) : Option (Int32)) fun x5 =>
      FX2_weightOfSteeple_L4 a0 a1 σ q (y2 + x5) (y3 + (1 : Int32))
def FX2_weightOfSteeple (b : Nat) (p0 : Int32) (σ : qH) : Option (Int32) :=
  b1 (gC σ b 2) fun _ =>
  b1 (FX2_weightOfSteeple_L4 b p0 σ qfuel (0 : Int32) (0 : Int32)) fun x9 =>
  some x9
/-- SteepleWords.steepleOf -/
def FX6_steepleOf (b : Nat) (p0 : Int32) (p1 : Int32) (σ : qH) : Option ((Int32) ⊕ String) :=
  b1 (gC σ b 4) fun _ =>
  bx (FX6_needSteeple p0 σ) fun _ =>
  b1 ((
      if p1 < (0 : Int32) then
        some (0 : Int32)
      else
        if (2 : Int32) < p1 then
          some (0 : Int32)
        else
          some (1 : Int32)
    ) : Option (Int32)) fun x3 =>
  bx (FX6_need x3 σ) fun _ =>
  if p1 = (0 : Int32) then
    b1 (gR σ b 4 0) fun r6 =>
    b1 (FX2_measuresOfSteeple r6 p0 σ) fun v9 =>
    some (.inl v9)
  else
  if p1 = (1 : Int32) then
    b1 (gR σ b 4 0) fun r11 =>
    b1 (FX2_heightSurveyed r11 p0 σ) fun v14 =>
    some (.inl v14)
  else
  b1 (gR σ b 4 0) fun r16 =>
  b1 (FX2_weightOfSteeple r16 p0 σ) fun v19 =>
  some (.inl v19)
/-- SteepleWords$Parish.voteOf -/
def FX2_voteOf_L6 (a0 : Nat) (a1 : Int32) (a2 : Int32) (a3 : Int32) (σ : qH) : Nat → Int32 → Int32 → Option (Int32)
  | 0, _, _ => none
  | q + 1, y4, y5 =>
    b1 (gI σ a0 2 6) fun v1 =>
    if v1 ≤ y5 then
      some y4
    else
      b1 ((
          if y5 = a3 then
            some (0 : Int32)
          else
            b1 (FX2_isOf a0 y5 a1 σ) fun v5 =>
            if v5 = 0 then
              some (0 : Int32)
            else
              b1 (FX2_tells a0 y5 a2 σ) fun v7 =>
              if v7 = 0 then
                some (0 : Int32)
              else
                b1 (FX2_weight a0 y5 σ) fun v9 =>
                some v9
        ) : Option (Int32)) fun x3 =>
      FX2_voteOf_L6 a0 a1 a2 a3 σ q (y4 + x3) (y5 + (1 : Int32))
def FX2_voteOf (b : Nat) (p0 : Int32) (p1 : Int32) (p2 : Int32) (σ : qH) : Option (Int32) :=
  b1 (gC σ b 2) fun _ =>
  b1 (FX2_voteOf_L6 b p0 p1 p2 σ qfuel (0 : Int32) (0 : Int32)) fun x11 =>
  some x11
/-- SteepleWords.vote -/
def FX6_vote (b : Nat) (p0 : Int32) (p1 : Int32) (σ : qH) : Option ((Int32) ⊕ String) :=
  b1 (gC σ b 4) fun _ =>
  bx (FX6_needSteeple p0 σ) fun _ =>
  b1 (FX2_isHeight p1 σ) fun v4 =>
  bx (FX6_need v4 σ) fun _ =>
  b1 (gR σ b 4 0) fun r7 =>
  b1 (FX2_voteOf r7 p0 p1 (-1 : Int32) σ) fun v10 =>
  some (.inl v10)
/-- SteepleWords$Ballot.noteChanges -/
def FX0_noteChanges_L10 (a0 : Nat) (a1 : Nat) (a2 : Int32) : Nat → Int32 → qH → Option (qH)
  | 0, _, _ => none
  | q + 1, y3, σ =>
    b1 (FX2_count a1 σ) fun v6 =>
    if v6 ≤ y3 then
      some σ
    else
      b1 (FX2_isOf a1 y3 a2 σ) fun v8 =>
      b1 ((
          if v8 = 0 then
            some σ
          else
            b1 (gR σ a0 0 0) fun r10 =>
            b1 (FX2_number a1 y3 (7 : Int32) σ) fun v13 =>
            b1 (aI σ r10 v13) fun v14 =>
            b1 (FX2_weight a1 y3 σ) fun v17 =>
            b1 (sI σ r10 v13 (v14 + v17)) fun s18 =>
            b1 (gR s18 a0 0 0) fun r20 =>
            b1 (FX2_number a1 y3 (8 : Int32) s18) fun v23 =>
            b1 (aI s18 r20 (v23 + (1 : Int32))) fun v24 =>
            b1 (FX2_weight a1 y3 s18) fun v27 =>
            b1 (sI s18 r20 (v23 + (1 : Int32)) (v24 - v27)) fun s28 =>
            some s28
        ) : Option (qH)) fun s9 =>
      FX0_noteChanges_L10 a0 a1 a2 q (y3 + (1 : Int32)) s9
def FX0_noteChanges (b : Nat) (p0 : Nat) (p1 : Int32) (σ : qH) : Option (qH) :=
  b1 (gC σ b 0) fun _ =>
  b1 (gR σ b 0 0) fun r1 =>
  b1 (FJ7_fill_53178 r1 (0 : Int32) σ) fun s4 =>
  b1 (FX0_noteChanges_L10 b p0 p1 qfuel (0 : Int32) s4) fun s31 =>
  some s31
/-- SteepleWords$Ballot.countByHeights -/
def FX0_countByHeights_L16 (a0 : Nat) : Nat → Int32 → Int32 → qH → Option (qH)
  | 0, _, _, _ => none
  | q + 1, y3, y4, σ =>
    if (999 : Int32) < y4 then
      some σ
    else
      b1 (gR σ a0 0 0) fun r5 =>
      b1 (aI σ r5 y4) fun v7 =>
      b1 (gI σ a0 0 3) fun v9 =>
      b1 ((
          if (y3 + v7) ≤ v9 then
            b1 (gI σ a0 0 3) fun v12 =>
            if (y3 + v7) = v12 then
              b1 (gI σ a0 0 2) fun v14 =>
              if v14 = (y4 - (1 : Int32)) then
                b1 (gP σ a0 0 2 (.int y4)) fun s16 =>
                some s16
              else
                some σ
            else
              some σ
          else
            b1 (gP σ a0 0 3 (.int (y3 + v7))) fun s18 =>
            b1 (gP s18 a0 0 1 (.int y4)) fun s20 =>
            b1 (gP s20 a0 0 2 (.int y4)) fun s22 =>
            some s22
        ) : Option (qH)) fun s11 =>
      FX0_countByHeights_L16 a0 q (y3 + v7) (y4 + (1 : Int32)) s11
def FX0_countByHeights (b : Nat) (p0 : Nat) (p1 : Int32) (σ : qH) : Option (qH) :=
  b1 (gC σ b 0) fun _ =>
  b1 (FX0_noteChanges b p0 p1 σ) fun s2 =>
  b1 (gP s2 b 0 3 (.int (-1 : Int32))) fun s3 =>
  b1 (FX0_countByHeights_L16 b qfuel (0 : Int32) (1 : Int32) s3) fun s25 =>
  some s25
/-- SteepleWords$Ballot.tryLowest -/
def FX0_tryLowest (b : Nat) (p0 : Int32) (p1 : Int32) (σ : qH) : Option (qH) :=
  b1 (gC σ b 0) fun _ =>
  b1 (gI σ b 0 3) fun v1 =>
  b1 ((
      if v1 < p1 then
        b1 (gP σ b 0 3 (.int p1)) fun s4 =>
        b1 (gP s4 b 0 1 (.int p0)) fun s6 =>
        some s6
      else
        b1 (gI σ b 0 3) fun v8 =>
        if p1 = v8 then
          b1 (gI σ b 0 1) fun v10 =>
          if v10 ≤ p0 then
            some σ
          else
            b1 (gP σ b 0 3 (.int p1)) fun s12 =>
            b1 (gP s12 b 0 1 (.int p0)) fun s14 =>
            some s14
        else
          some σ
    ) : Option (qH)) fun s3 =>
  some s3
/-- SteepleWords$Ballot.countByEnds -/
def FX0_countByEnds_L19 (a0 : Nat) (a1 : Nat) (a2 : Int32) (a3 : Int32) : Nat → Int32 → qH → Option (qH)
  | 0, _, _ => none
  | q + 1, y4, σ =>
    b1 (FX2_count a1 σ) fun v8 =>
    if v8 ≤ y4 then
      some σ
    else
      b1 ((
          if y4 = a3 then
            some σ
          else
            b1 (FX2_isOf a1 y4 a2 σ) fun v11 =>
            if v11 = 0 then
              some σ
            else
              b1 (FX2_number a1 y4 (7 : Int32) σ) fun v13 =>
              b1 (FX2_voteOf a1 a2 v13 a3 σ) fun v15 =>
              b1 (FX0_tryLowest a0 v13 v15 σ) fun s17 =>
              some s17
        ) : Option (qH)) fun s9 =>
      FX0_countByEnds_L19 a0 a1 a2 a3 q (y4 + (1 : Int32)) s9
def FX0_countByEnds_L84 (a0 : Nat) (a1 : Nat) (a2 : Int32) (a3 : Int32) : Nat → Int32 → qH → Option (qH)
  | 0, _, _ => none
  | q + 1, y4, σ =>
    b1 (FX2_count a1 σ) fun v23 =>
    if v23 ≤ y4 then
      some σ
    else
      b1 (FX2_number a1 y4 (8 : Int32) σ) fun v25 =>
      b1 ((
          if y4 = a3 then
            some σ
          else
            b1 (FX2_isOf a1 y4 a2 σ) fun v28 =>
            if v28 = 0 then
              some σ
            else
              b1 (gI σ a0 0 1) fun v29 =>
              if v25 < v29 then
                some σ
              else
                b1 (gI σ a0 0 2) fun v31 =>
                if v31 ≤ v25 then
                  some σ
                else
                  b1 (FX2_voteOf a1 a2 (v25 + (1 : Int32)) a3 σ) fun v34 =>
                  b1 (gI σ a0 0 3) fun v35 =>
                  if v35 ≤ v34 then
                    some σ
                  else
                    b1 (gP σ a0 0 2 (.int v25)) fun s37 =>
                    some s37
        ) : Option (qH)) fun s26 =>
      FX0_countByEnds_L84 a0 a1 a2 a3 q (y4 + (1 : Int32)) s26
def FX0_countByEnds (b : Nat) (p0 : Nat) (p1 : Int32) (p2 : Int32) (σ : qH) : Option (qH) :=
  b1 (gC σ b 0) fun _ =>
  b1 (gP σ b 0 1 (.int (1 : Int32))) fun s1 =>
  b1 (FX2_voteOf p0 p1 (1 : Int32) p2 s1) fun v4 =>
  b1 (gP s1 b 0 3 (.int v4)) fun s5 =>
  b1 (FX0_countByEnds_L19 b p0 p1 p2 qfuel (0 : Int32) s5) fun s19 =>
  b1 (gP s19 b 0 2 (.int (999 : Int32))) fun s20 =>
  b1 (FX0_countByEnds_L84 b p0 p1 p2 qfuel (0 : Int32) s20) fun s40 =>
  some s40
/-- SteepleWords$Ballot.told -/
def FX0_told (b : Nat) (p0 : Int32) (σ : qH) : Option (Int32) :=
  b1 (gC σ b 0) fun _ =>
  if p0 = (0 : Int32) then
    b1 (gI σ b 0 1) fun v1 =>
    some v1
  else
  if p0 = (1 : Int32) then
    b1 (gI σ b 0 2) fun v4 =>
    some v4
  else
  b1 (gI σ b 0 3) fun v7 =>
  some v7
/-- SteepleWords.best -/
def FX6_best (b : Nat) (p0 : Int32) (p1 : Int32) (p2 : Int32) (σ : qH) : Option ((Int32 × qH) ⊕ (String × qH)) :=
  b1 (gC σ b 4) fun _ =>
  bxw (FX6_needSteeple p0 σ) σ fun _ =>
  b1 ((
      if p1 < (0 : Int32) then
        some (0 : Int32)
      else
        if (2 : Int32) < p1 then
          some (0 : Int32)
        else
          if p2 < (0 : Int32) then
            some (0 : Int32)
          else
            if (1 : Int32) < p2 then
              some (0 : Int32)
            else
              some (1 : Int32)
    ) : Option (Int32)) fun x3 =>
  bxw (FX6_need x3 σ) σ fun _ =>
  b1 ((
      if p2 = 0 then
        b1 (gR σ b 4 6) fun r7 =>
        b1 (gR σ b 4 0) fun r9 =>
        b1 (FX0_countByHeights r7 r9 p0 σ) fun s12 =>
        some s12
      else
        b1 (gR σ b 4 6) fun r13 =>
        b1 (gR σ b 4 0) fun r15 =>
        b1 (FX0_countByEnds r13 r15 p0 (-1 : Int32) σ) fun s18 =>
        some s18
    ) : Option (qH)) fun s6 =>
  b1 (gR s6 b 4 6) fun r19 =>
  b1 (FX0_told r19 p1 s6) fun v22 =>
  some (.inl (v22, s6))
/-- SteepleWords$Parish.isSetting -/
def FX2_isSetting (p0 : Int32) (σ : qH) : Option (Int32) :=
  b1 ((
      if p0 < (0 : Int32) then
        some (0 : Int32)
      else
        if (2 : Int32) ≤ p0 then
          some (0 : Int32)
        else
          some (1 : Int32)
    ) : Option (Int32)) fun x1 =>
  if x1 = 0 ∨ x1 = 1 then
    some x1
  else none
/-- SteepleWords$Parish.settingOf -/
def FX2_settingOf (b : Nat) (p0 : Int32) (σ : qH) : Option (Int32) :=
  b1 (gC σ b 2) fun _ =>
  b1 (gR σ b 2 5) fun r1 =>
  b1 (aI σ r1 p0) fun v3 =>
  some v3
/-- SteepleWords.setting -/
def FX6_setting (b : Nat) (p0 : Int32) (σ : qH) : Option ((Int32) ⊕ String) :=
  b1 (gC σ b 4) fun _ =>
  b1 (FX2_isSetting p0 σ) fun v2 =>
  bx (FX6_need v2 σ) fun _ =>
  b1 (gR σ b 4 0) fun r5 =>
  b1 (FX2_settingOf r5 p0 σ) fun v8 =>
  some (.inl v8)
/-- SteepleWords$Parish.takeFrom -/
def FX2_takeFrom (b : Nat) (p0 : Nat) (σ : qH) : Option (qH) :=
  b1 (gC σ b 2) fun _ =>
  b1 (gR σ p0 2 0) fun r1 =>
  b1 (gR σ b 2 0) fun r3 =>
  b1 (gR σ b 2 0) fun r5 =>
  b1 (aL σ r5) fun v7 =>
  b1 (sC σ r1 (0 : Int32) r3 (0 : Int32) v7) fun s9 =>
  b1 (gR s9 p0 2 1) fun r11 =>
  b1 (gR s9 b 2 1) fun r13 =>
  b1 (gR s9 b 2 1) fun r15 =>
  b1 (aL s9 r15) fun v17 =>
  b1 (sC s9 r11 (0 : Int32) r13 (0 : Int32) v17) fun s19 =>
  b1 (gR s19 p0 2 2) fun r21 =>
  b1 (gR s19 b 2 2) fun r23 =>
  b1 (gR s19 b 2 2) fun r25 =>
  b1 (aL s19 r25) fun v27 =>
  b1 (sC s19 r21 (0 : Int32) r23 (0 : Int32) v27) fun s29 =>
  b1 (gR s29 p0 2 3) fun r31 =>
  b1 (gR s29 b 2 3) fun r33 =>
  b1 (gR s29 b 2 3) fun r35 =>
  b1 (aL s29 r35) fun v37 =>
  b1 (sC s29 r31 (0 : Int32) r33 (0 : Int32) v37) fun s39 =>
  b1 (gR s39 p0 2 4) fun r41 =>
  b1 (gR s39 b 2 4) fun r43 =>
  b1 (gR s39 b 2 4) fun r45 =>
  b1 (aL s39 r45) fun v47 =>
  b1 (sC s39 r41 (0 : Int32) r43 (0 : Int32) v47) fun s49 =>
  b1 (gR s49 p0 2 5) fun r51 =>
  b1 (gR s49 b 2 5) fun r53 =>
  b1 (gR s49 b 2 5) fun r55 =>
  b1 (aL s49 r55) fun v57 =>
  b1 (sC s49 r51 (0 : Int32) r53 (0 : Int32) v57) fun s59 =>
  b1 (gI s59 p0 2 6) fun v61 =>
  b1 (gP s59 b 2 6 (.int v61)) fun s63 =>
  b1 (gI s63 p0 2 7) fun v65 =>
  b1 (gP s63 b 2 7 (.int v65)) fun s67 =>
  b1 (gI s67 p0 2 8) fun v69 =>
  b1 (gP s67 b 2 8 (.int v69)) fun s71 =>
  b1 (gI s71 p0 2 9) fun v73 =>
  b1 (gP s71 b 2 9 (.int v73)) fun s75 =>
  b1 (gI s75 p0 2 10) fun v77 =>
  b1 (gP s75 b 2 10 (.int v77)) fun s79 =>
  some s79
/-- SteepleWords$History.remember -/
def FX1_remember (b : Nat) (p0 : Nat) (σ : qH) : Option (qH) :=
  b1 (gC σ b 1) fun _ =>
  b1 (gR σ b 1 0) fun r1 =>
  b1 (gI σ b 1 1) fun v3 =>
  b1 (aQ σ r1 v3) fun r5 =>
  b1 (FX2_takeFrom r5 p0 σ) fun s8 =>
  b1 (gI s8 b 1 1) fun v9 =>
  b1 ((
      if (14 : Int32) ≤ (v9 + (1 : Int32)) then
        some (0 : Int32)
      else
        b1 (gI s8 b 1 1) fun v12 =>
        some (v12 + (1 : Int32))
    ) : Option (Int32)) fun x11 =>
  b1 (gP s8 b 1 1 (.int x11)) fun s14 =>
  b1 (gI s14 b 1 2) fun v16 =>
  b1 (FJ9_min_7cf53 (14 : Int32) (v16 + (1 : Int32)) s14) fun v19 =>
  b1 (gP s14 b 1 2 (.int v19)) fun s20 =>
  some s20
/-- SteepleWords.measure -/
def FX6_measure (b : Nat) (p0 : Int32) (p1 : Int32) (p2 : Int32) (p3 : Int32) (p4 : Int32) (p5 : Int32) (p6 : Int32) (σ : qH) : Option ((Int32 × qH) ⊕ (String × qH)) :=
  b1 (gC σ b 4) fun _ =>
  bxw (FX6_needSteeple p0 σ) σ fun _ =>
  bxw (FX6_needTeller p1 σ) σ fun _ =>
  b1 (FX2_fits p2 p3 p4 p5 p6 σ) fun v6 =>
  bxw (FX6_need v6 σ) σ fun _ =>
  b1 (gR σ b 4 0) fun r9 =>
  b1 (FX2_isFull r9 σ) fun v12 =>
  if v12 = 0 then
    b1 (gR σ b 4 4) fun r13 =>
    b1 (gR σ b 4 0) fun r15 =>
    b1 (FX1_remember r13 r15 σ) fun s18 =>
    b1 (gR s18 b 4 0) fun r19 =>
    b2 (FX2_addMeasure r19 p0 p1 p2 p3 p4 p5 p6 s18) fun v22 s23 =>
    some (.inl (v22, s23))
  else
    some (.inr ("java/lang/IllegalStateException", σ))
/-- SteepleWords.drop -/
def FX6_drop (b : Nat) (p0 : Int32) (σ : qH) : Option ((Int32 × qH) ⊕ (String × qH)) :=
  b1 (gC σ b 4) fun _ =>
  bxw (FX6_needMeasure b p0 σ) σ fun _ =>
  b1 (gR σ b 4 4) fun r3 =>
  b1 (gR σ b 4 0) fun r5 =>
  b1 (FX1_remember r3 r5 σ) fun s8 =>
  b1 (gR s8 b 4 0) fun r9 =>
  b2 (FX2_removeMeasure r9 p0 s8) fun v12 s13 =>
  some (.inl (v12, s13))
/-- SteepleWords.trust -/
def FX6_trust (b : Nat) (p0 : Int32) (p1 : Int32) (σ : qH) : Option ((Int32 × qH) ⊕ (String × qH)) :=
  b1 (gC σ b 4) fun _ =>
  bxw (FX6_needTeller p0 σ) σ fun _ =>
  b1 (FX2_isTrust p1 σ) fun v4 =>
  bxw (FX6_need v4 σ) σ fun _ =>
  b1 (gR σ b 4 4) fun r7 =>
  b1 (gR σ b 4 0) fun r9 =>
  b1 (FX1_remember r7 r9 σ) fun s12 =>
  b1 (gR s12 b 4 0) fun r13 =>
  b2 (FX2_changeTrust r13 p0 p1 s12) fun v16 s17 =>
  some (.inl (v16, s17))
/-- SteepleWords.evening -/
def FX6_evening (b : Nat) (σ : qH) : Option (Int32 × qH) :=
  b1 (gC σ b 4) fun _ =>
  b1 (gR σ b 4 4) fun r1 =>
  b1 (gR σ b 4 0) fun r3 =>
  b1 (FX1_remember r1 r3 σ) fun s6 =>
  b1 (gR s6 b 4 0) fun r7 =>
  b2 (FX2_passEvening r7 s6) fun v10 s11 =>
  some (v10, s11)
/-- SteepleWords.survey -/
def FX6_survey (b : Nat) (p0 : Int32) (p1 : Int32) (σ : qH) : Option ((Int32 × qH) ⊕ (String × qH)) :=
  b1 (gC σ b 4) fun _ =>
  bxw (FX6_needSteeple p0 σ) σ fun _ =>
  b1 (FX2_isHeight p1 σ) fun v4 =>
  bxw (FX6_need v4 σ) σ fun _ =>
  b1 (gR σ b 4 4) fun r7 =>
  b1 (gR σ b 4 0) fun r9 =>
  b1 (FX1_remember r7 r9 σ) fun s12 =>
  b1 (gR s12 b 4 0) fun r13 =>
  b2 (FX2_surveySteeple r13 p0 p1 s12) fun v16 s17 =>
  some (.inl (v16, s17))
/-- SteepleWords$Parish.fitsSetting -/
def FX2_fitsSetting (p0 : Int32) (p1 : Int32) (σ : qH) : Option (Int32) :=
  b1 (FX2_isSetting p0 σ) fun v2 =>
  b1 ((
      if v2 = 0 then
        some (0 : Int32)
      else
        if p1 < (0 : Int32) then
          some (0 : Int32)
        else
          b1 ((
              if p0 = 0 then
                some (5 : Int32)
              else
                some (50 : Int32)
            ) : Option (Int32)) fun x4 =>
          if x4 < p1 then
            some (0 : Int32)
          else
            some (1 : Int32)
    ) : Option (Int32)) fun x3 =>
  if x3 = 0 ∨ x3 = 1 then
    some x3
  else none
/-- SteepleWords$Parish.changeSetting -/
def FX2_changeSetting (b : Nat) (p0 : Int32) (p1 : Int32) (σ : qH) : Option (Int32 × qH) :=
  b1 (gC σ b 2) fun _ =>
  b1 (gR σ b 2 5) fun r1 =>
  b1 (aI σ r1 p0) fun v3 =>
  b1 (gR σ b 2 5) fun r5 =>
  b1 (sI σ r5 p0 p1) fun s7 =>
  some (v3, s7)
/-- SteepleWords.set -/
def FX6_set (b : Nat) (p0 : Int32) (p1 : Int32) (σ : qH) : Option ((Int32 × qH) ⊕ (String × qH)) :=
  b1 (gC σ b 4) fun _ =>
  b1 (FX2_fitsSetting p0 p1 σ) fun v2 =>
  bxw (FX6_need v2 σ) σ fun _ =>
  b1 (gR σ b 4 4) fun r5 =>
  b1 (gR σ b 4 0) fun r7 =>
  b1 (FX1_remember r5 r7 σ) fun s10 =>
  b1 (gR s10 b 4 0) fun r11 =>
  b2 (FX2_changeSetting r11 p0 p1 s10) fun v14 s15 =>
  some (.inl (v14, s15))
/-- SteepleWords$History.isEmpty -/
def FX1_isEmpty (b : Nat) (σ : qH) : Option (Int32) :=
  b1 (gC σ b 1) fun _ =>
  b1 (gI σ b 1 2) fun v1 =>
  b1 ((
      if v1 = 0 then
        some (1 : Int32)
      else
        some (0 : Int32)
    ) : Option (Int32)) fun x3 =>
  if x3 = 0 ∨ x3 = 1 then
    some x3
  else none
/-- SteepleWords$History.takeBack -/
def FX1_takeBack (b : Nat) (p0 : Nat) (σ : qH) : Option (Int32 × qH) :=
  b1 (gC σ b 1) fun _ =>
  b1 (gI σ b 1 1) fun v1 =>
  b1 ((
      if v1 ≤ 0 then
        some (13 : Int32)
      else
        b1 (gI σ b 1 1) fun v4 =>
        some (v4 - (1 : Int32))
    ) : Option (Int32)) fun x3 =>
  b1 (gP σ b 1 1 (.int x3)) fun s6 =>
  b1 (gI s6 b 1 2) fun v8 =>
  b1 (gP s6 b 1 2 (.int (v8 - (1 : Int32)))) fun s10 =>
  b1 (gR s10 b 1 0) fun r12 =>
  b1 (gI s10 b 1 1) fun v14 =>
  b1 (aQ s10 r12 v14) fun r16 =>
  b1 (FX2_takeFrom p0 r16 s10) fun s19 =>
  b1 (gI s19 b 1 2) fun v20 =>
  some (v20, s19)
/-- SteepleWords.undo -/
def FX6_undo (b : Nat) (σ : qH) : Option ((Int32 × qH) ⊕ (String × qH)) :=
  b1 (gC σ b 4) fun _ =>
  b1 (gR σ b 4 4) fun r1 =>
  b1 (FX1_isEmpty r1 σ) fun v4 =>
  if v4 = 0 then
    b1 (gR σ b 4 4) fun r5 =>
    b1 (gR σ b 4 0) fun r7 =>
    b2 (FX1_takeBack r5 r7 σ) fun v10 s11 =>
    some (.inl (v10, s11))
  else
    some (.inr ("java/lang/IllegalStateException", σ))
/-- SteepleWords.apart -/
def FX6_apart (b : Nat) (p0 : Int32) (p1 : Int32) (σ : qH) : Option ((Int32) ⊕ String) :=
  b1 (gC σ b 4) fun _ =>
  bx (FX6_needMeasure b p0 σ) fun _ =>
  bx (FX6_needMeasure b p1 σ) fun _ =>
  b1 (gR σ b 4 0) fun r5 =>
  b1 (FX2_feetApart r5 p0 p1 σ) fun v8 =>
  some (.inl v8)
/-- SteepleWords$Ballot.lowest -/
def FX0_lowest (b : Nat) (σ : qH) : Option (Int32) :=
  b1 (gC σ b 0) fun _ =>
  b1 (gI σ b 0 1) fun v1 =>
  some v1
/-- SteepleWords$Parish.feetFrom -/
def FX2_feetFrom (b : Nat) (p0 : Int32) (p1 : Int32) (σ : qH) : Option (Int32) :=
  b1 (gC σ b 2) fun _ =>
  b1 (FX2_number b p0 (7 : Int32) σ) fun v2 =>
  b1 (FX2_number b p0 (8 : Int32) σ) fun v4 =>
  b1 (FJ9_max_7cf53 (v2 - p1) (p1 - v4) σ) fun v6 =>
  b1 (FJ9_max_7cf53 (0 : Int32) v6 σ) fun v8 =>
  some v8
/-- SteepleWords$Parish.isLouder -/
def FX2_isLouder (b : Nat) (p0 : Int32) (p1 : Int32) (p2 : Int32) (σ : qH) : Option (Int32) :=
  b1 (gC σ b 2) fun _ =>
  b1 (FX2_weight b p0 σ) fun v2 =>
  b1 (FX2_weight b p1 σ) fun v4 =>
  b1 ((
      if (v2 - v4) = 0 then
        b1 (FX2_feetFrom b p0 p2 σ) fun v7 =>
        b1 (FX2_feetFrom b p1 p2 σ) fun v9 =>
        if v7 ≤ v9 then
          some (0 : Int32)
        else
          some (1 : Int32)
      else
        if (v2 - v4) ≤ 0 then
          some (0 : Int32)
        else
          some (1 : Int32)
    ) : Option (Int32)) fun x5 =>
  if x5 = 0 ∨ x5 = 1 then
    some x5
  else none
/-- SteepleWords$Parish.loudestAgainst -/
def FX2_loudestAgainst_L5 (a0 : Nat) (a1 : Int32) (a2 : Int32) (σ : qH) : Nat → Int32 → Int32 → Option (Int32)
  | 0, _, _ => none
  | q + 1, y3, y4 =>
    b1 (gI σ a0 2 6) fun v1 =>
    if v1 ≤ y4 then
      some y3
    else
      b1 (FX2_isOf a0 y4 a1 σ) fun v4 =>
      b1 ((
          if v4 = 0 then
            some y3
          else
            b1 (FX2_tells a0 y4 a2 σ) fun v7 =>
            if v7 = 0 then
              if y3 = (-1 : Int32) then
                some y4
              else
                b1 (FX2_isLouder a0 y4 y3 a2 σ) fun v9 =>
                if v9 = 0 then
                  some y3
                else
                  some y4
            else
              some y3
        ) : Option (Int32)) fun x5 =>
      FX2_loudestAgainst_L5 a0 a1 a2 σ q x5 (y4 + (1 : Int32))
def FX2_loudestAgainst (b : Nat) (p0 : Int32) (p1 : Int32) (σ : qH) : Option (Int32) :=
  b1 (gC σ b 2) fun _ =>
  b1 (FX2_loudestAgainst_L5 b p0 p1 σ qfuel (-1 : Int32) (0 : Int32)) fun x11 =>
  some x11
/-- SteepleWords.against -/
def FX6_against (b : Nat) (p0 : Int32) (σ : qH) : Option ((Int32 × qH) ⊕ (String × qH)) :=
  b1 (gC σ b 4) fun _ =>
  bxw (FX6_needSteeple p0 σ) σ fun _ =>
  b1 (gR σ b 4 6) fun r3 =>
  b1 (gR σ b 4 0) fun r5 =>
  b1 (FX0_countByEnds r3 r5 p0 (-1 : Int32) σ) fun s8 =>
  b1 (gR s8 b 4 0) fun r9 =>
  b1 (gR s8 b 4 6) fun r11 =>
  b1 (FX0_lowest r11 s8) fun v14 =>
  b1 (FX2_loudestAgainst r9 p0 v14 s8) fun v16 =>
  some (.inl (v16, s8))
/-- SteepleWords.without -/
def FX6_without (b : Nat) (p0 : Int32) (p1 : Int32) (σ : qH) : Option ((Int32 × qH) ⊕ (String × qH)) :=
  b1 (gC σ b 4) fun _ =>
  bxw (FX6_needMeasure b p0 σ) σ fun _ =>
  b1 ((
      if p1 < (0 : Int32) then
        some (0 : Int32)
      else
        if (2 : Int32) < p1 then
          some (0 : Int32)
        else
          some (1 : Int32)
    ) : Option (Int32)) fun x3 =>
  bxw (FX6_need x3 σ) σ fun _ =>
  b1 (gR σ b 4 6) fun r6 =>
  b1 (gR σ b 4 0) fun r8 =>
  b1 (gR σ b 4 0) fun r10 =>
  b1 (FX2_number r10 p0 (0 : Int32) σ) fun v13 =>
  b1 (FX0_countByEnds r6 r8 v13 p0 σ) fun s15 =>
  b1 (gR s15 b 4 6) fun r16 =>
  b1 (FX0_told r16 p1 s15) fun v19 =>
  some (.inl (v19, s15))
/-- SteepleWords$Parish.tellsHeight -/
def FX2_tellsHeight_L3 (a0 : Nat) (a1 : Int32) (a2 : Int32) (a3 : Int32) (σ : qH) : Nat → Int32 → Option (Int32)
  | 0, _ => none
  | q + 1, y4 =>
    b1 (gI σ a0 2 6) fun v1 =>
    if v1 ≤ y4 then
      some (0 : Int32)
    else
      b1 (FX2_isOf a0 y4 a2 σ) fun v4 =>
      if v4 = 0 then
        FX2_tellsHeight_L3 a0 a1 a2 a3 σ q (y4 + (1 : Int32))
      else
        b1 (FX2_number a0 y4 (1 : Int32) σ) fun v6 =>
        if v6 = a1 then
          b1 (FX2_tells a0 y4 a3 σ) fun v8 =>
          if v8 = 0 then
            FX2_tellsHeight_L3 a0 a1 a2 a3 σ q (y4 + (1 : Int32))
          else
            some (1 : Int32)
        else
          FX2_tellsHeight_L3 a0 a1 a2 a3 σ q (y4 + (1 : Int32))
def FX2_tellsHeight (b : Nat) (p0 : Int32) (p1 : Int32) (p2 : Int32) (σ : qH) : Option (Int32) :=
  b1 (gC σ b 2) fun _ =>
  FX2_tellsHeight_L3 b p0 p1 p2 σ qfuel (0 : Int32)
/-- SteepleWords.swings -/
def FX6_swings_L21 (a0 : Nat) (a1 : Int32) (a2 : Int32) : Nat → Int32 → qH → Option ((Int32 × qH) ⊕ (String × qH))
  | 0, _, _ => none
  | q + 1, y3, σ =>
    if (9 : Int32) < y3 then
      some (.inl ((-1 : Int32), σ))
    else
      b1 (gR σ a0 4 1) fun r11 =>
      b2 (FX2_changeTrust r11 a1 y3 σ) fun v14 s15 =>
      b1 (gR s15 a0 4 6) fun r16 =>
      b1 (gR s15 a0 4 1) fun r18 =>
      b1 (FX0_countByEnds r16 r18 a2 (-1 : Int32) s15) fun s21 =>
      b1 (gR s21 a0 4 1) fun r22 =>
      b1 (gR s21 a0 4 6) fun r24 =>
      b1 (FX0_lowest r24 s21) fun v27 =>
      b1 (FX2_tellsHeight r22 a1 a2 v27 s21) fun v29 =>
      if v29 = 0 then
        FX6_swings_L21 a0 a1 a2 q (y3 + (1 : Int32)) s21
      else
        some (.inl (y3, s21))
def FX6_swings (b : Nat) (p0 : Int32) (p1 : Int32) (σ : qH) : Option ((Int32 × qH) ⊕ (String × qH)) :=
  b1 (gC σ b 4) fun _ =>
  bxw (FX6_needTeller p0 σ) σ fun _ =>
  bxw (FX6_needSteeple p1 σ) σ fun _ =>
  b1 (gR σ b 4 1) fun r5 =>
  b1 (gR σ b 4 0) fun r7 =>
  b1 (FX2_takeFrom r5 r7 σ) fun s10 =>
  FX6_swings_L21 b p0 p1 qfuel (0 : Int32) s10
/-- SteepleWords$Parish.isTruer -/
def FX2_isTruer (b : Nat) (p0 : Int32) (p1 : Int32) (σ : qH) : Option (Int32) :=
  b1 (gC σ b 2) fun _ =>
  b1 (gR σ b 2 2) fun r1 =>
  b1 (aI σ r1 p0) fun v3 =>
  b1 (gR σ b 2 3) fun r5 =>
  b1 (aI σ r5 p0) fun v7 =>
  b1 (gR σ b 2 2) fun r9 =>
  b1 (aI σ r9 p1) fun v11 =>
  b1 (gR σ b 2 3) fun r13 =>
  b1 (aI σ r13 p1) fun v15 =>
  b1 (gR σ b 2 2) fun r17 =>
  b1 (aI σ r17 p0) fun v19 =>
  b1 (gR σ b 2 2) fun r21 =>
  b1 (aI σ r21 p1) fun v23 =>
  b1 ((
      if ((v19 * (v11 + v15)) - (v23 * (v3 + v7))) = 0 then
        if (v3 + v7) ≤ (v11 + v15) then
          some (0 : Int32)
        else
          some (1 : Int32)
      else
        if ((v19 * (v11 + v15)) - (v23 * (v3 + v7))) ≤ 0 then
          some (0 : Int32)
        else
          some (1 : Int32)
    ) : Option (Int32)) fun x25 =>
  if x25 = 0 ∨ x25 = 1 then
    some x25
  else none
/-- SteepleWords$Parish.tellerMostlyRight -/
def FX2_tellerMostlyRight_L4 (a0 : Nat) (σ : qH) : Nat → Int32 → Int32 → Option (Int32)
  | 0, _, _ => none
  | q + 1, y1, y2 =>
    if (6 : Int32) ≤ y2 then
      some y1
    else
      b1 (gR σ a0 2 2) fun r1 =>
      b1 (aI σ r1 y2) fun v3 =>
      b1 (gR σ a0 2 3) fun r5 =>
      b1 (aI σ r5 y2) fun v7 =>
      b1 ((
          if (v3 + v7) ≤ 0 then
            some y1
          else
            if y1 = (-1 : Int32) then
              some y2
            else
              b1 (FX2_isTruer a0 y2 y1 σ) fun v11 =>
              if v11 = 0 then
                some y1
              else
                some y2
        ) : Option (Int32)) fun x9 =>
      FX2_tellerMostlyRight_L4 a0 σ q x9 (y2 + (1 : Int32))
def FX2_tellerMostlyRight (b : Nat) (σ : qH) : Option (Int32) :=
  b1 (gC σ b 2) fun _ =>
  b1 (FX2_tellerMostlyRight_L4 b σ qfuel (-1 : Int32) (0 : Int32)) fun x13 =>
  some x13
/-- SteepleWords.truest -/
def FX6_truest (b : Nat) (σ : qH) : Option (Int32) :=
  b1 (gC σ b 4) fun _ =>
  b1 (gR σ b 4 0) fun r1 =>
  b1 (FX2_tellerMostlyRight r1 σ) fun v4 =>
  some v4
/-- SteepleWords$Script.limit -/
def FX3_limit_L4 (a0 : Int32) (σ : qH) : Nat → Int64 → Int32 → Option (Int64)
  | 0, _, _ => none
  | q + 1, y1, y3 =>
    if a0 ≤ y3 then
      some y1
    else
      FX3_limit_L4 a0 σ q (y1 * (1000000 : Int64)) (y3 + (1 : Int32))
def FX3_limit (p0 : Int32) (σ : qH) : Option (Int64) :=
  b1 (FX3_limit_L4 p0 σ qfuel (1 : Int64) (0 : Int32)) fun x1 =>
  some x1
/-- SteepleWords$Script.group -/
def FX3_group_L5 (a2 : Int32) (σ : qH) : Nat → Int64 → Int32 → Option (Int64)
  | 0, _, _ => none
  | q + 1, y3, y5 =>
    if a2 ≤ y5 then
      some y3
    else
      FX3_group_L5 a2 σ q (y3 / (1000000 : Int64)) (y5 + (1 : Int32))
def FX3_group (p0 : Int64) (p1 : Int32) (σ : qH) : Option (Int32) :=
  b1 (FX3_group_L5 p1 σ qfuel p0 (0 : Int32)) fun x1 =>
  some ((lrm x1 (1000000 : Int64))).toInt32
/-- SteepleWords$Script.passEvenings -/
def FX3_passEvenings_L2 (a0 : Nat) (a1 : Int32) : Nat → Int32 → qH → Option (qH)
  | 0, _, _ => none
  | q + 1, y2, σ =>
    if a1 ≤ y2 then
      some σ
    else
      b2 (FX2_passEvening a0 σ) fun v2 s3 =>
      FX3_passEvenings_L2 a0 a1 q (y2 + (1 : Int32)) s3
def FX3_passEvenings (p0 : Nat) (p1 : Int32) (σ : qH) : Option (Int32 × qH) :=
  b1 (FX3_passEvenings_L2 p0 p1 qfuel (0 : Int32) σ) fun s4 =>
  some ((1 : Int32), s4)
/-- SteepleWords$Script.lowestIsAtMost -/
def FX3_lowestIsAtMost (p0 : Nat) (p1 : Nat) (p2 : Int32) (p3 : Int32) (σ : qH) : Option (Int32 × qH) :=
  b1 (FX2_isSteeple p2 σ) fun v2 =>
  if v2 = 0 then
    some ((0 : Int32), σ)
  else
    b1 (FX0_countByEnds p1 p0 p2 (-1 : Int32) σ) fun s4 =>
    b1 (FX0_lowest p1 s4) fun v6 =>
    b1 ((
        if p3 < v6 then
          some (0 : Int32)
        else
          some (1 : Int32)
      ) : Option (Int32)) fun x7 =>
    if x7 = 0 ∨ x7 = 1 then
      some (x7, s4)
    else none
/-- SteepleWords$Ballot.most -/
def FX0_most (b : Nat) (σ : qH) : Option (Int32) :=
  b1 (gC σ b 0) fun _ =>
  b1 (gI σ b 0 3) fun v1 =>
  some v1
/-- SteepleWords$Script.mostIsAtLeast -/
def FX3_mostIsAtLeast (p0 : Nat) (p1 : Nat) (p2 : Int32) (p3 : Int32) (σ : qH) : Option (Int32 × qH) :=
  b1 (FX2_isSteeple p2 σ) fun v2 =>
  if v2 = 0 then
    some ((0 : Int32), σ)
  else
    b1 (FX0_countByEnds p1 p0 p2 (-1 : Int32) σ) fun s4 =>
    b1 (FX0_most p1 s4) fun v6 =>
    b1 ((
        if v6 < p3 then
          some (0 : Int32)
        else
          some (1 : Int32)
      ) : Option (Int32)) fun x7 =>
    if x7 = 0 ∨ x7 = 1 then
      some (x7, s4)
    else none
/-- SteepleWords$Script.succeeds -/
def FX3_succeeds (p0 : Nat) (p1 : Nat) (p2 : Int32) (σ : qH) : Option (Int32 × qH) :=
  if (p2 / (100000 : Int32)) = (1 : Int32) then
    b2 (FX2_tryMeasure p0 (irm (p2 / (10000 : Int32)) (10 : Int32)) (irm (p2 / (1000 : Int32)) (10 : Int32)) (2 : Int32) (irm p2 (1000 : Int32)) (irm p2 (1000 : Int32)) (0 : Int32) (0 : Int32) σ) fun v2 s3 =>
    if v2 = 0 ∨ v2 = 1 then
      some (v2, s3)
    else none
  else
  if (p2 / (100000 : Int32)) = (2 : Int32) then
    b2 ((
        if (irm p2 (1000 : Int32)) = 0 then
          b2 (FX2_tryDrop p0 (irm (p2 / (1000 : Int32)) (100 : Int32)) σ) fun v8 s9 =>
          if v8 = 0 then
            some ((0 : Int32), s9)
          else
            some ((1 : Int32), s9)
        else
          some ((0 : Int32), σ)
      ) : Option (Int32 × qH)) fun x5 s6 =>
    if x5 = 0 ∨ x5 = 1 then
      some (x5, s6)
    else none
  else
  if (p2 / (100000 : Int32)) = (3 : Int32) then
    b2 ((
        if (irm (p2 / (10 : Int32)) (1000 : Int32)) = 0 then
          b2 (FX2_tryTrust p0 (irm (p2 / (10000 : Int32)) (10 : Int32)) (irm p2 (10 : Int32)) σ) fun v15 s16 =>
          if v15 = 0 then
            some ((0 : Int32), s16)
          else
            some ((1 : Int32), s16)
        else
          some ((0 : Int32), σ)
      ) : Option (Int32 × qH)) fun x12 s13 =>
    if x12 = 0 ∨ x12 = 1 then
      some (x12, s13)
    else none
  else
  if (p2 / (100000 : Int32)) = (4 : Int32) then
    b2 ((
        if (irm (p2 / (10 : Int32)) (10000 : Int32)) = 0 then
          b2 (FX3_passEvenings p0 (irm p2 (10 : Int32)) σ) fun v22 s23 =>
          if v22 = 0 then
            some ((0 : Int32), s23)
          else
            some ((1 : Int32), s23)
        else
          some ((0 : Int32), σ)
      ) : Option (Int32 × qH)) fun x19 s20 =>
    if x19 = 0 ∨ x19 = 1 then
      some (x19, s20)
    else none
  else
  if (p2 / (100000 : Int32)) = (5 : Int32) then
    b2 ((
        if (irm (p2 / (1000 : Int32)) (10 : Int32)) = 0 then
          b2 (FX2_trySurvey p0 (irm (p2 / (10000 : Int32)) (10 : Int32)) (irm p2 (1000 : Int32)) σ) fun v29 s30 =>
          if v29 = 0 then
            some ((0 : Int32), s30)
          else
            some ((1 : Int32), s30)
        else
          some ((0 : Int32), σ)
      ) : Option (Int32 × qH)) fun x26 s27 =>
    if x26 = 0 ∨ x26 = 1 then
      some (x26, s27)
    else none
  else
  if (p2 / (100000 : Int32)) = (6 : Int32) then
    b2 ((
        if (irm (p2 / (1000 : Int32)) (10 : Int32)) = 0 then
          b2 (FX3_lowestIsAtMost p0 p1 (irm (p2 / (10000 : Int32)) (10 : Int32)) (irm p2 (1000 : Int32)) σ) fun v36 s37 =>
          if v36 = 0 then
            some ((0 : Int32), s37)
          else
            some ((1 : Int32), s37)
        else
          some ((0 : Int32), σ)
      ) : Option (Int32 × qH)) fun x33 s34 =>
    if x33 = 0 ∨ x33 = 1 then
      some (x33, s34)
    else none
  else
  if (p2 / (100000 : Int32)) = (7 : Int32) then
    b2 ((
        if (irm p2 (100 : Int32)) = 0 then
          b2 (FX3_mostIsAtLeast p0 p1 (irm (p2 / (10000 : Int32)) (10 : Int32)) (irm (p2 / (100 : Int32)) (100 : Int32)) σ) fun v43 s44 =>
          if v43 = 0 then
            some ((0 : Int32), s44)
          else
            some ((1 : Int32), s44)
        else
          some ((0 : Int32), σ)
      ) : Option (Int32 × qH)) fun x40 s41 =>
    if x40 = 0 ∨ x40 = 1 then
      some (x40, s41)
    else none
  else
  if (p2 / (100000 : Int32)) = (8 : Int32) then
    b1 ((
        if (irm (p2 / (10 : Int32)) (1000 : Int32)) = 0 then
          b1 (FX2_isTeller (irm (p2 / (10000 : Int32)) (10 : Int32)) σ) fun v49 =>
          if v49 = 0 then
            some (0 : Int32)
          else
            b1 (FX2_trustOf p0 (irm (p2 / (10000 : Int32)) (10 : Int32)) σ) fun v51 =>
            if v51 < (irm p2 (10 : Int32)) then
              some (0 : Int32)
            else
              some (1 : Int32)
        else
          some (0 : Int32)
      ) : Option (Int32)) fun x47 =>
    if x47 = 0 ∨ x47 = 1 then
      some (x47, σ)
    else none
  else
  if (p2 / (100000 : Int32)) = (9 : Int32) then
    b1 ((
        if (irm (p2 / (100 : Int32)) (1000 : Int32)) = 0 then
          b1 (FX2_pairsThatQuarrel p0 σ) fun v56 =>
          if (irm p2 (100 : Int32)) < v56 then
            some (0 : Int32)
          else
            some (1 : Int32)
        else
          some (0 : Int32)
      ) : Option (Int32)) fun x54 =>
    if x54 = 0 ∨ x54 = 1 then
      some (x54, σ)
    else none
  else
  some ((0 : Int32), σ)
/-- SteepleWords.runScript -/
def FX6_runScript_L55 (a0 : Nat) (a1 : Int32) (a2 : Int64) : Nat → Int32 → qH → Option ((Int32 × qH) ⊕ (String × qH))
  | 0, _, _ => none
  | q + 1, y4, σ =>
    if a1 ≤ y4 then
      some (.inl ((-1 : Int32), σ))
    else
      b1 (gR σ a0 4 1) fun r15 =>
      b1 (gR σ a0 4 6) fun r17 =>
      b1 (FX3_group a2 ((a1 - (1 : Int32)) - y4) σ) fun v20 =>
      b2 (FX3_succeeds r15 r17 v20 σ) fun v22 s23 =>
      if v22 = 0 then
        some (.inl (y4, s23))
      else
        FX6_runScript_L55 a0 a1 a2 q (y4 + (1 : Int32)) s23
def FX6_runScript (b : Nat) (p0 : Int32) (p1 : Int64) (σ : qH) : Option ((Int32 × qH) ⊕ (String × qH)) :=
  b1 (gC σ b 4) fun _ =>
  b1 ((
      if p0 < (1 : Int32) then
        some (0 : Int32)
      else
        if (3 : Int32) < p0 then
          some (0 : Int32)
        else
          some (1 : Int32)
    ) : Option (Int32)) fun x1 =>
  bxw (FX6_need x1 σ) σ fun _ =>
  b1 ((
      if 0 < (lg_cmp (0 : Int64) p1) then
        some (0 : Int32)
      else
        b1 (FX3_limit p0 σ) fun v6 =>
        if 0 ≤ (lg_cmp p1 v6) then
          some (0 : Int32)
        else
          some (1 : Int32)
    ) : Option (Int32)) fun x4 =>
  bxw (FX6_need x4 σ) σ fun _ =>
  b1 (gR σ b 4 1) fun r9 =>
  b1 (gR σ b 4 0) fun r11 =>
  b1 (FX2_takeFrom r9 r11 σ) fun s14 =>
  FX6_runScript_L55 b p0 p1 qfuel (0 : Int32) s14
/-- SteepleWords$Simulation.tell -/
def FX4_tell (p0 : Nat) (p1 : Int32) (p2 : Int32) (σ : qH) : Option (qH) :=
  b1 ((
      if (3 : Int32) < p1 then
        if (5 : Int32) < p1 then
          b2 (FX2_tryMeasure p0 (irm p2 (3 : Int32)) (irm (p2 / (4 : Int32)) (6 : Int32)) (2 : Int32) ((1 : Int32) + (irm (p2 / (32 : Int32)) (900 : Int32))) (((1 : Int32) + (irm (p2 / (32 : Int32)) (900 : Int32))) + (irm (p2 / (256 : Int32)) (90 : Int32))) (0 : Int32) (0 : Int32) σ) fun v3 s4 =>
          some s4
        else
          b2 (FX2_tryMeasure p0 (irm p2 (3 : Int32)) (irm (p2 / (4 : Int32)) (6 : Int32)) (1 : Int32) ((1 : Int32) + (irm (p2 / (32 : Int32)) (9 : Int32))) ((1 : Int32) + (irm (p2 / (288 : Int32)) (60 : Int32))) ((1 : Int32) + (irm (p2 / (256 : Int32)) (400 : Int32))) (irm (p2 / (8 : Int32)) (21 : Int32)) σ) fun v6 s7 =>
          some s7
      else
        b2 (FX2_tryMeasure p0 (irm p2 (3 : Int32)) (irm (p2 / (4 : Int32)) (6 : Int32)) (0 : Int32) ((1 : Int32) + (irm (p2 / (32 : Int32)) (20 : Int32))) ((1 : Int32) + (irm (p2 / (640 : Int32)) (40 : Int32))) ((1 : Int32) + (irm (p2 / (256 : Int32)) (400 : Int32))) (irm (p2 / (8 : Int32)) (21 : Int32)) σ) fun v9 s10 =>
        some s10
    ) : Option (qH)) fun s1 =>
  some s1
/-- SteepleWords$Simulation.changeSetting -/
def FX4_changeSetting (p0 : Nat) (p1 : Int32) (σ : qH) : Option (qH) :=
  b1 ((
      if (irm (p1 / (8 : Int32)) (2 : Int32)) = 0 then
        b2 (FX2_changeSetting p0 (0 : Int32) (irm p1 (6 : Int32)) σ) fun v3 s4 =>
        some s4
      else
        b2 (FX2_changeSetting p0 (1 : Int32) (irm (p1 / (16 : Int32)) (51 : Int32)) σ) fun v6 s7 =>
        some s7
    ) : Option (qH)) fun s1 =>
  some s1
/-- SteepleWords$Simulation.turn -/
def FX4_turn (p0 : Nat) (p1 : Int32) (σ : qH) : Option (qH) :=
  b1 ((
      if (irm p1 (16 : Int32)) = (0 : Int32) ∨ (irm p1 (16 : Int32)) = (1 : Int32) ∨ (irm p1 (16 : Int32)) = (2 : Int32) ∨ (irm p1 (16 : Int32)) = (3 : Int32) ∨ (irm p1 (16 : Int32)) = (4 : Int32) ∨ (irm p1 (16 : Int32)) = (5 : Int32) ∨ (irm p1 (16 : Int32)) = (6 : Int32) ∨ (irm p1 (16 : Int32)) = (7 : Int32) ∨ (irm p1 (16 : Int32)) = (8 : Int32) then
        b1 (FX4_tell p0 (irm p1 (16 : Int32)) (p1 / (16 : Int32)) σ) fun s3 =>
        some s3
      else
      if (irm p1 (16 : Int32)) = (9 : Int32) then
        b2 (FX2_tryDrop p0 (irm (p1 / (16 : Int32)) (16 : Int32)) σ) fun v6 s7 =>
        some s7
      else
      if (irm p1 (16 : Int32)) = (10 : Int32) ∨ (irm p1 (16 : Int32)) = (11 : Int32) ∨ (irm p1 (16 : Int32)) = (12 : Int32) then
        b2 (FX2_passEvening p0 σ) fun v10 s11 =>
        some s11
      else
      if (irm p1 (16 : Int32)) = (13 : Int32) then
        b1 (FX4_changeSetting p0 (p1 / (16 : Int32)) σ) fun s14 =>
        some s14
      else
      b2 (FX2_trySurvey p0 (irm (p1 / (16 : Int32)) (3 : Int32)) ((1 : Int32) + (irm ((p1 / (16 : Int32)) / (32 : Int32)) (999 : Int32))) σ) fun v17 s18 =>
      some s18
    ) : Option (qH)) fun s1 =>
  some s1
/-- SteepleWords.simulate -/
def FX6_simulate_L36 (a0 : Nat) (a3 : Int32) : Nat → Int64 → Int32 → qH → Option (qH)
  | 0, _, _, _ => none
  | q + 1, y4, y6, σ =>
    if a3 ≤ y6 then
      some σ
    else
      b1 (gR σ a0 4 1) fun r10 =>
      b1 (FX4_turn r10 ((lus ((y4 * (6364136223846793005 : Int64)) + (1442695040888963407 : Int64)) (33 : Int32))).toInt32 σ) fun s13 =>
      FX6_simulate_L36 a0 a3 q ((y4 * (6364136223846793005 : Int64)) + (1442695040888963407 : Int64)) (y6 + (1 : Int32)) s13
def FX6_simulate (b : Nat) (p0 : Int64) (p1 : Int32) (σ : qH) : Option ((Int32 × qH) ⊕ (String × qH)) :=
  b1 (gC σ b 4) fun _ =>
  b1 ((
      if p1 < (1 : Int32) then
        some (0 : Int32)
      else
        if (60 : Int32) < p1 then
          some (0 : Int32)
        else
          some (1 : Int32)
    ) : Option (Int32)) fun x1 =>
  bxw (FX6_need x1 σ) σ fun _ =>
  b1 (gR σ b 4 1) fun r4 =>
  b1 (gR σ b 4 0) fun r6 =>
  b1 (FX2_takeFrom r4 r6 σ) fun s9 =>
  b1 (FX6_simulate_L36 b p1 qfuel p0 (0 : Int32) s9) fun s14 =>
  b1 (gR s14 b 4 1) fun r15 =>
  b1 (FX2_rightOfAll r15 s14) fun v18 =>
  b1 (gR s14 b 4 0) fun r19 =>
  b1 (FX2_rightOfAll r19 s14) fun v22 =>
  b1 (gR s14 b 4 1) fun r23 =>
  b1 (FX2_count r23 s14) fun v26 =>
  b1 (gR s14 b 4 1) fun r27 =>
  b1 (FX2_trustOfAll r27 s14) fun v30 =>
  some (.inl (((((10000 : Int32) * v26) + ((100 : Int32) * v30)) + (irm (v18 - v22) (100 : Int32))), s14))
/-- SteepleWords.needSlot -/
def FX6_needSlot (p0 : Int32) (σ : qH) : Option ((Unit) ⊕ String) :=
  if p0 < 0 then
    some (.inr "java/lang/IndexOutOfBoundsException")
  else
    if p0 < (2 : Int32) then
      some (.inl ())
    else
      some (.inr "java/lang/IndexOutOfBoundsException")
/-- SteepleWords.save -/
def FX6_save (b : Nat) (p0 : Int32) (σ : qH) : Option ((Int32 × qH) ⊕ (String × qH)) :=
  b1 (gC σ b 4) fun _ =>
  bxw (FX6_needSlot p0 σ) σ fun _ =>
  b1 (gR σ b 4 2) fun r3 =>
  b1 (aQ σ r3 p0) fun r5 =>
  b1 (gR σ b 4 0) fun r7 =>
  b1 (FX2_takeFrom r5 r7 σ) fun s10 =>
  b1 (gR s10 b 4 3) fun r11 =>
  b1 (sZ s10 r11 p0 (1 : Int32)) fun s13 =>
  b1 (gR s13 b 4 0) fun r15 =>
  b1 (FX2_count r15 s13) fun v18 =>
  some (.inl (v18, s13))
/-- SteepleWords.restore -/
def FX6_restore (b : Nat) (p0 : Int32) (σ : qH) : Option ((Int32 × qH) ⊕ (String × qH)) :=
  b1 (gC σ b 4) fun _ =>
  bxw (FX6_needSlot p0 σ) σ fun _ =>
  b1 (gR σ b 4 3) fun r3 =>
  b1 (aZ σ r3 p0) fun v5 =>
  if v5 = 0 then
    some (.inr ("java/lang/IllegalStateException", σ))
  else
    b1 (gR σ b 4 0) fun r7 =>
    b1 (gR σ b 4 2) fun r9 =>
    b1 (aQ σ r9 p0) fun r11 =>
    b1 (FX2_takeFrom r7 r11 σ) fun s14 =>
    b1 (gR s14 b 4 4) fun r15 =>
    b1 (FX1_forget r15 s14) fun s18 =>
    b1 (gR s18 b 4 0) fun r19 =>
    b1 (FX2_count r19 s18) fun v22 =>
    some (.inl (v22, s18))
/-- SteepleWords$Parish.<init> -/
def FX2_init (b : Nat) (σ : qH) (n0 : Nat) : Option (qH) :=
  b1 (some (qU σ n0 (.inl (0, (144, .inl (fun _ => 0)))))) fun s1 =>
  b1 (gP s1 b 2 0 (.ref n0)) fun s3 =>
  b1 (some (qU s3 (n0 + 1) (.inl (0, (6, .inl (fun _ => 0)))))) fun s5 =>
  b1 (gP s5 b 2 1 (.ref (n0 + 1))) fun s7 =>
  b1 (some (qU s7 (n0 + 2) (.inl (0, (6, .inl (fun _ => 0)))))) fun s9 =>
  b1 (gP s9 b 2 2 (.ref (n0 + 2))) fun s11 =>
  b1 (some (qU s11 (n0 + 3) (.inl (0, (6, .inl (fun _ => 0)))))) fun s13 =>
  b1 (gP s13 b 2 3 (.ref (n0 + 3))) fun s15 =>
  b1 (some (qU s15 (n0 + 4) (.inl (0, (3, .inl (fun _ => 0)))))) fun s17 =>
  b1 (gP s17 b 2 4 (.ref (n0 + 4))) fun s19 =>
  b1 (some (qU s19 (n0 + 5) (.inl (0, (2, .inl (fun _ => 0)))))) fun s21 =>
  b1 (gP s21 b 2 5 (.ref (n0 + 5))) fun s23 =>
  b1 (FX2_makeNew b s23) fun s26 =>
  some s26
/-- SteepleWords$Ballot.<init> -/
def FX0_init (b : Nat) (σ : qH) (n0 : Nat) : Option (qH) :=
  b1 (some (qU σ n0 (.inl (0, (1001, .inl (fun _ => 0)))))) fun s1 =>
  b1 (gP s1 b 0 0 (.ref n0)) fun s3 =>
  some s3
/-- SteepleWords$Text.<init> -/
def FX5_init (b : Nat) (σ : qH) (n0 : Nat) : Option (qH) :=
  b1 (some (qU σ n0 (.inl (0, (120, .inl (fun _ => 0)))))) fun s1 =>
  b1 (gP s1 b 3 0 (.ref n0)) fun s3 =>
  b1 (some (qU s3 (n0 + 1) (.inl (0, (6, .inl (fun _ => 0)))))) fun s5 =>
  b1 (gP s5 b 3 4 (.ref (n0 + 1))) fun s7 =>
  some s7
/-- SteepleWords$History.<init> -/
def FX1_init (b : Nat) (σ : qH) (n0 : Nat) : Option (qH) :=
  b1 (some (qU σ n0 (.inl (2, (14, .inr (.inr (.inr (.inr (fun _ => none))))))))) fun s1 =>
  b1 (gP s1 b 1 0 (.ref n0)) fun s3 =>
  b1 (gR s3 b 1 0) fun r5 =>
  b1 (aL s3 r5) fun v7 =>
  if v7 ≤ (0 : Int32) then
    none
  else
    b1 (gR s3 b 1 0) fun r9 =>
    b1 (some (qU s3 (n0 + 1) (.inr (2, [.null, .null, .null, .null, .null, .null, .int 0, .int 0, .int 0, .int 0, .int 0])))) fun s11 =>
    b1 (FX2_init (n0 + 1) s11 (n0 + 2)) fun s13 =>
    b1 (sQ s13 r9 (0 : Int32) (n0 + 1)) fun s15 =>
    b1 (gR s15 b 1 0) fun r17 =>
    b1 (aL s15 r17) fun v19 =>
    if v19 ≤ (1 : Int32) then
      none
    else
      b1 (gR s15 b 1 0) fun r21 =>
      b1 (some (qU s15 (n0 + 8) (.inr (2, [.null, .null, .null, .null, .null, .null, .int 0, .int 0, .int 0, .int 0, .int 0])))) fun s23 =>
      b1 (FX2_init (n0 + 8) s23 (n0 + 9)) fun s25 =>
      b1 (sQ s25 r21 (1 : Int32) (n0 + 8)) fun s27 =>
      b1 (gR s27 b 1 0) fun r29 =>
      b1 (aL s27 r29) fun v31 =>
      if v31 ≤ (2 : Int32) then
        none
      else
        b1 (gR s27 b 1 0) fun r33 =>
        b1 (some (qU s27 (n0 + 15) (.inr (2, [.null, .null, .null, .null, .null, .null, .int 0, .int 0, .int 0, .int 0, .int 0])))) fun s35 =>
        b1 (FX2_init (n0 + 15) s35 (n0 + 16)) fun s37 =>
        b1 (sQ s37 r33 (2 : Int32) (n0 + 15)) fun s39 =>
        b1 (gR s39 b 1 0) fun r41 =>
        b1 (aL s39 r41) fun v43 =>
        if v43 ≤ (3 : Int32) then
          none
        else
          b1 (gR s39 b 1 0) fun r45 =>
          b1 (some (qU s39 (n0 + 22) (.inr (2, [.null, .null, .null, .null, .null, .null, .int 0, .int 0, .int 0, .int 0, .int 0])))) fun s47 =>
          b1 (FX2_init (n0 + 22) s47 (n0 + 23)) fun s49 =>
          b1 (sQ s49 r45 (3 : Int32) (n0 + 22)) fun s51 =>
          b1 (gR s51 b 1 0) fun r53 =>
          b1 (aL s51 r53) fun v55 =>
          if v55 ≤ (4 : Int32) then
            none
          else
            b1 (gR s51 b 1 0) fun r57 =>
            b1 (some (qU s51 (n0 + 29) (.inr (2, [.null, .null, .null, .null, .null, .null, .int 0, .int 0, .int 0, .int 0, .int 0])))) fun s59 =>
            b1 (FX2_init (n0 + 29) s59 (n0 + 30)) fun s61 =>
            b1 (sQ s61 r57 (4 : Int32) (n0 + 29)) fun s63 =>
            b1 (gR s63 b 1 0) fun r65 =>
            b1 (aL s63 r65) fun v67 =>
            if v67 ≤ (5 : Int32) then
              none
            else
              b1 (gR s63 b 1 0) fun r69 =>
              b1 (some (qU s63 (n0 + 36) (.inr (2, [.null, .null, .null, .null, .null, .null, .int 0, .int 0, .int 0, .int 0, .int 0])))) fun s71 =>
              b1 (FX2_init (n0 + 36) s71 (n0 + 37)) fun s73 =>
              b1 (sQ s73 r69 (5 : Int32) (n0 + 36)) fun s75 =>
              b1 (gR s75 b 1 0) fun r77 =>
              b1 (aL s75 r77) fun v79 =>
              if v79 ≤ (6 : Int32) then
                none
              else
                b1 (gR s75 b 1 0) fun r81 =>
                b1 (some (qU s75 (n0 + 43) (.inr (2, [.null, .null, .null, .null, .null, .null, .int 0, .int 0, .int 0, .int 0, .int 0])))) fun s83 =>
                b1 (FX2_init (n0 + 43) s83 (n0 + 44)) fun s85 =>
                b1 (sQ s85 r81 (6 : Int32) (n0 + 43)) fun s87 =>
                b1 (gR s87 b 1 0) fun r89 =>
                b1 (aL s87 r89) fun v91 =>
                if v91 ≤ (7 : Int32) then
                  none
                else
                  b1 (gR s87 b 1 0) fun r93 =>
                  b1 (some (qU s87 (n0 + 50) (.inr (2, [.null, .null, .null, .null, .null, .null, .int 0, .int 0, .int 0, .int 0, .int 0])))) fun s95 =>
                  b1 (FX2_init (n0 + 50) s95 (n0 + 51)) fun s97 =>
                  b1 (sQ s97 r93 (7 : Int32) (n0 + 50)) fun s99 =>
                  b1 (gR s99 b 1 0) fun r101 =>
                  b1 (aL s99 r101) fun v103 =>
                  if v103 ≤ (8 : Int32) then
                    none
                  else
                    b1 (gR s99 b 1 0) fun r105 =>
                    b1 (some (qU s99 (n0 + 57) (.inr (2, [.null, .null, .null, .null, .null, .null, .int 0, .int 0, .int 0, .int 0, .int 0])))) fun s107 =>
                    b1 (FX2_init (n0 + 57) s107 (n0 + 58)) fun s109 =>
                    b1 (sQ s109 r105 (8 : Int32) (n0 + 57)) fun s111 =>
                    b1 (gR s111 b 1 0) fun r113 =>
                    b1 (aL s111 r113) fun v115 =>
                    if v115 ≤ (9 : Int32) then
                      none
                    else
                      b1 (gR s111 b 1 0) fun r117 =>
                      b1 (some (qU s111 (n0 + 64) (.inr (2, [.null, .null, .null, .null, .null, .null, .int 0, .int 0, .int 0, .int 0, .int 0])))) fun s119 =>
                      b1 (FX2_init (n0 + 64) s119 (n0 + 65)) fun s121 =>
                      b1 (sQ s121 r117 (9 : Int32) (n0 + 64)) fun s123 =>
                      b1 (gR s123 b 1 0) fun r125 =>
                      b1 (aL s123 r125) fun v127 =>
                      if v127 ≤ (10 : Int32) then
                        none
                      else
                        b1 (gR s123 b 1 0) fun r129 =>
                        b1 (some (qU s123 (n0 + 71) (.inr (2, [.null, .null, .null, .null, .null, .null, .int 0, .int 0, .int 0, .int 0, .int 0])))) fun s131 =>
                        b1 (FX2_init (n0 + 71) s131 (n0 + 72)) fun s133 =>
                        b1 (sQ s133 r129 (10 : Int32) (n0 + 71)) fun s135 =>
                        b1 (gR s135 b 1 0) fun r137 =>
                        b1 (aL s135 r137) fun v139 =>
                        if v139 ≤ (11 : Int32) then
                          none
                        else
                          b1 (gR s135 b 1 0) fun r141 =>
                          b1 (some (qU s135 (n0 + 78) (.inr (2, [.null, .null, .null, .null, .null, .null, .int 0, .int 0, .int 0, .int 0, .int 0])))) fun s143 =>
                          b1 (FX2_init (n0 + 78) s143 (n0 + 79)) fun s145 =>
                          b1 (sQ s145 r141 (11 : Int32) (n0 + 78)) fun s147 =>
                          b1 (gR s147 b 1 0) fun r149 =>
                          b1 (aL s147 r149) fun v151 =>
                          if v151 ≤ (12 : Int32) then
                            none
                          else
                            b1 (gR s147 b 1 0) fun r153 =>
                            b1 (some (qU s147 (n0 + 85) (.inr (2, [.null, .null, .null, .null, .null, .null, .int 0, .int 0, .int 0, .int 0, .int 0])))) fun s155 =>
                            b1 (FX2_init (n0 + 85) s155 (n0 + 86)) fun s157 =>
                            b1 (sQ s157 r153 (12 : Int32) (n0 + 85)) fun s159 =>
                            b1 (gR s159 b 1 0) fun r161 =>
                            b1 (aL s159 r161) fun v163 =>
                            if v163 ≤ (13 : Int32) then
                              none
                            else
                              b1 (gR s159 b 1 0) fun r165 =>
                              b1 (some (qU s159 (n0 + 92) (.inr (2, [.null, .null, .null, .null, .null, .null, .int 0, .int 0, .int 0, .int 0, .int 0])))) fun s167 =>
                              b1 (FX2_init (n0 + 92) s167 (n0 + 93)) fun s169 =>
                              b1 (sQ s169 r165 (13 : Int32) (n0 + 92)) fun s171 =>
                              b1 (gR s171 b 1 0) fun r173 =>
                              b1 (aL s171 r173) fun v175 =>
                              if v175 ≤ (14 : Int32) then
                                some s171
                              else
                                none
/-- SteepleWords.<init> -/
def FX6_init (b : Nat) (σ : qH) (n0 : Nat) : Option (qH) :=
  b1 (some (qU σ n0 (.inr (2, [.null, .null, .null, .null, .null, .null, .int 0, .int 0, .int 0, .int 0, .int 0])))) fun s1 =>
  b1 (FX2_init n0 s1 (n0 + 1)) fun s3 =>
  b1 (gP s3 b 4 0 (.ref n0)) fun s5 =>
  b1 (some (qU s5 (n0 + 7) (.inr (2, [.null, .null, .null, .null, .null, .null, .int 0, .int 0, .int 0, .int 0, .int 0])))) fun s7 =>
  b1 (FX2_init (n0 + 7) s7 (n0 + 8)) fun s9 =>
  b1 (gP s9 b 4 1 (.ref (n0 + 7))) fun s11 =>
  b1 (some (qU s11 (n0 + 14) (.inl (2, (2, .inr (.inr (.inr (.inr (fun _ => none))))))))) fun s13 =>
  b1 (gP s13 b 4 2 (.ref (n0 + 14))) fun s15 =>
  b1 (some (qU s15 (n0 + 15) (.inl (1, (2, .inl (fun _ => 0)))))) fun s17 =>
  b1 (gP s17 b 4 3 (.ref (n0 + 15))) fun s19 =>
  b1 (some (qU s19 (n0 + 16) (.inr (1, [.null, .int 0, .int 0])))) fun s21 =>
  b1 (FX1_init (n0 + 16) s21 (n0 + 17)) fun s23 =>
  b1 (gP s23 b 4 4 (.ref (n0 + 16))) fun s25 =>
  b1 (some (qU s25 (n0 + 116) (.inr (3, [.null, .int 0, .int 0, .int 0, .null])))) fun s27 =>
  b1 (FX5_init (n0 + 116) s27 (n0 + 117)) fun s29 =>
  b1 (gP s29 b 4 5 (.ref (n0 + 116))) fun s31 =>
  b1 (some (qU s31 (n0 + 119) (.inr (0, [.null, .int 0, .int 0, .int 0])))) fun s33 =>
  b1 (FX0_init (n0 + 119) s33 (n0 + 120)) fun s35 =>
  b1 (gP s35 b 4 6 (.ref (n0 + 119))) fun s37 =>
  b1 (gR s37 b 4 2) fun r39 =>
  b1 (aL s37 r39) fun v41 =>
  if v41 ≤ (0 : Int32) then
    none
  else
    b1 (gR s37 b 4 2) fun r43 =>
    b1 (some (qU s37 (n0 + 121) (.inr (2, [.null, .null, .null, .null, .null, .null, .int 0, .int 0, .int 0, .int 0, .int 0])))) fun s45 =>
    b1 (FX2_init (n0 + 121) s45 (n0 + 122)) fun s47 =>
    b1 (sQ s47 r43 (0 : Int32) (n0 + 121)) fun s49 =>
    b1 (gR s49 b 4 2) fun r51 =>
    b1 (aL s49 r51) fun v53 =>
    if v53 ≤ (1 : Int32) then
      none
    else
      b1 (gR s49 b 4 2) fun r55 =>
      b1 (some (qU s49 (n0 + 128) (.inr (2, [.null, .null, .null, .null, .null, .null, .int 0, .int 0, .int 0, .int 0, .int 0])))) fun s57 =>
      b1 (FX2_init (n0 + 128) s57 (n0 + 129)) fun s59 =>
      b1 (sQ s59 r55 (1 : Int32) (n0 + 128)) fun s61 =>
      b1 (gR s61 b 4 2) fun r63 =>
      b1 (aL s61 r63) fun v65 =>
      if v65 ≤ (2 : Int32) then
        some s61
      else
        none
/-- SteepleWordsLaw.cell -/
def FL_cell (p0 : Nat) (p1 : Int32) (σ : qH) : Option (Int32) :=
  b1 (aL σ p0) fun v1 =>
  b1 ((
      if v1 ≤ p1 then
        some (((15520171 : Int32) * (p1 + (3 : Int32))) + (12101 : Int32))
      else
        b1 (aI σ p0 p1) fun v4 =>
        some v4
    ) : Option (Int32)) fun x3 =>
  some (x3 &&& (2147483647 : Int32))
/-- SteepleWordsLaw.tryAppend -/
def FL_tryAppend (p0 : Nat) (p1 : Int32) (σ : qH) : Option (Int32 × qH) :=
  bc2 (FX6_append p0 p1 σ) (fun v3 s4 =>
    some (v3, s4)
    ) (fun e2 s5 =>
    if e2 = "java/lang/IllegalArgumentException" then
      some ((-9999002 : Int32), s5)
    else
    if e2 = "java/lang/IllegalStateException" then
      some ((-9999003 : Int32), s5)
    else
    none
    )
/-- SteepleWordsLaw.tryLoad -/
def FL_tryLoad (tst : Nat → Nat) (p0 : Nat) (σ : qH) : Option (Int32 × qH) :=
  bc2 (FX6_load tst p0 σ) (fun v3 s4 =>
    some (v3, s4)
    ) (fun e2 s5 =>
    if e2 = "java/lang/IllegalStateException" then
      some ((-9999003 : Int32), s5)
    else
    none
    )
/-- SteepleWordsLaw.tryAbout -/
def FL_tryAbout (p0 : Nat) (p1 : Int32) (σ : qH) : Option (Int32) :=
  bc (FX6_about p0 p1 σ) (fun v3 =>
    some v3
    ) (fun e2 =>
    if e2 = "java/lang/IllegalArgumentException" then
      some (-9999002 : Int32)
    else
    none
    )
/-- SteepleWordsLaw.tryOf -/
def FL_tryOf (p0 : Nat) (p1 : Int32) (p2 : Int32) (σ : qH) : Option (Int32) :=
  bc (FX6_measureOf p0 p1 p2 σ) (fun v3 =>
    some v3
    ) (fun e2 =>
    if e2 = "java/lang/IndexOutOfBoundsException" then
      some (-9999001 : Int32)
    else
    if e2 = "java/lang/IllegalArgumentException" then
      some (-9999002 : Int32)
    else
    none
    )
/-- SteepleWordsLaw.tryTeller -/
def FL_tryTeller (p0 : Nat) (p1 : Int32) (p2 : Int32) (σ : qH) : Option (Int32) :=
  bc (FX6_tellerOf p0 p1 p2 σ) (fun v3 =>
    some v3
    ) (fun e2 =>
    if e2 = "java/lang/IndexOutOfBoundsException" then
      some (-9999001 : Int32)
    else
    if e2 = "java/lang/IllegalArgumentException" then
      some (-9999002 : Int32)
    else
    none
    )
/-- SteepleWordsLaw.trySteeple -/
def FL_trySteeple (p0 : Nat) (p1 : Int32) (p2 : Int32) (σ : qH) : Option (Int32) :=
  bc (FX6_steepleOf p0 p1 p2 σ) (fun v3 =>
    some v3
    ) (fun e2 =>
    if e2 = "java/lang/IndexOutOfBoundsException" then
      some (-9999001 : Int32)
    else
    if e2 = "java/lang/IllegalArgumentException" then
      some (-9999002 : Int32)
    else
    none
    )
/-- SteepleWordsLaw.tryVote -/
def FL_tryVote (p0 : Nat) (p1 : Int32) (p2 : Int32) (σ : qH) : Option (Int32) :=
  bc (FX6_vote p0 p1 p2 σ) (fun v3 =>
    some v3
    ) (fun e2 =>
    if e2 = "java/lang/IndexOutOfBoundsException" then
      some (-9999001 : Int32)
    else
    if e2 = "java/lang/IllegalArgumentException" then
      some (-9999002 : Int32)
    else
    none
    )
/-- SteepleWordsLaw.tryBest -/
def FL_tryBest (p0 : Nat) (p1 : Int32) (p2 : Int32) (p3 : Int32) (σ : qH) : Option (Int32 × qH) :=
  bc2 (FX6_best p0 p1 p2 p3 σ) (fun v3 s4 =>
    some (v3, s4)
    ) (fun e2 s5 =>
    if e2 = "java/lang/IndexOutOfBoundsException" then
      some ((-9999001 : Int32), s5)
    else
    if e2 = "java/lang/IllegalArgumentException" then
      some ((-9999002 : Int32), s5)
    else
    none
    )
/-- SteepleWordsLaw.trySetting -/
def FL_trySetting (p0 : Nat) (p1 : Int32) (σ : qH) : Option (Int32) :=
  bc (FX6_setting p0 p1 σ) (fun v3 =>
    some v3
    ) (fun e2 =>
    if e2 = "java/lang/IllegalArgumentException" then
      some (-9999002 : Int32)
    else
    none
    )
/-- SteepleWordsLaw.tryDrop -/
def FL_tryDrop (p0 : Nat) (p1 : Int32) (σ : qH) : Option (Int32 × qH) :=
  bc2 (FX6_drop p0 p1 σ) (fun v3 s4 =>
    some (v3, s4)
    ) (fun e2 s5 =>
    if e2 = "java/lang/IndexOutOfBoundsException" then
      some ((-9999001 : Int32), s5)
    else
    none
    )
/-- SteepleWordsLaw.tryTrust -/
def FL_tryTrust (p0 : Nat) (p1 : Int32) (p2 : Int32) (σ : qH) : Option (Int32 × qH) :=
  bc2 (FX6_trust p0 p1 p2 σ) (fun v3 s4 =>
    some (v3, s4)
    ) (fun e2 s5 =>
    if e2 = "java/lang/IndexOutOfBoundsException" then
      some ((-9999001 : Int32), s5)
    else
    if e2 = "java/lang/IllegalArgumentException" then
      some ((-9999002 : Int32), s5)
    else
    none
    )
/-- SteepleWordsLaw.trySurvey -/
def FL_trySurvey (p0 : Nat) (p1 : Int32) (p2 : Int32) (σ : qH) : Option (Int32 × qH) :=
  bc2 (FX6_survey p0 p1 p2 σ) (fun v3 s4 =>
    some (v3, s4)
    ) (fun e2 s5 =>
    if e2 = "java/lang/IndexOutOfBoundsException" then
      some ((-9999001 : Int32), s5)
    else
    if e2 = "java/lang/IllegalArgumentException" then
      some ((-9999002 : Int32), s5)
    else
    none
    )
/-- SteepleWordsLaw.tryLay -/
def FL_tryLay (p0 : Nat) (p1 : Int32) (p2 : Int32) (σ : qH) : Option (Int32 × qH) :=
  bc2 (FX6_set p0 p1 p2 σ) (fun v3 s4 =>
    some (v3, s4)
    ) (fun e2 s5 =>
    if e2 = "java/lang/IllegalArgumentException" then
      some ((-9999002 : Int32), s5)
    else
    none
    )
/-- SteepleWordsLaw.tryUndo -/
def FL_tryUndo (p0 : Nat) (σ : qH) : Option (Int32 × qH) :=
  bc2 (FX6_undo p0 σ) (fun v3 s4 =>
    some (v3, s4)
    ) (fun e2 s5 =>
    if e2 = "java/lang/IllegalStateException" then
      some ((-9999003 : Int32), s5)
    else
    none
    )
/-- SteepleWordsLaw.tryApart -/
def FL_tryApart (p0 : Nat) (p1 : Int32) (p2 : Int32) (σ : qH) : Option (Int32) :=
  bc (FX6_apart p0 p1 p2 σ) (fun v3 =>
    some v3
    ) (fun e2 =>
    if e2 = "java/lang/IndexOutOfBoundsException" then
      some (-9999001 : Int32)
    else
    none
    )
/-- SteepleWordsLaw.tryAgainst -/
def FL_tryAgainst (p0 : Nat) (p1 : Int32) (σ : qH) : Option (Int32 × qH) :=
  bc2 (FX6_against p0 p1 σ) (fun v3 s4 =>
    some (v3, s4)
    ) (fun e2 s5 =>
    if e2 = "java/lang/IndexOutOfBoundsException" then
      some ((-9999001 : Int32), s5)
    else
    none
    )
/-- SteepleWordsLaw.tryWithout -/
def FL_tryWithout (p0 : Nat) (p1 : Int32) (p2 : Int32) (σ : qH) : Option (Int32 × qH) :=
  bc2 (FX6_without p0 p1 p2 σ) (fun v3 s4 =>
    some (v3, s4)
    ) (fun e2 s5 =>
    if e2 = "java/lang/IndexOutOfBoundsException" then
      some ((-9999001 : Int32), s5)
    else
    if e2 = "java/lang/IllegalArgumentException" then
      some ((-9999002 : Int32), s5)
    else
    none
    )
/-- SteepleWordsLaw.trySwings -/
def FL_trySwings (p0 : Nat) (p1 : Int32) (p2 : Int32) (σ : qH) : Option (Int32 × qH) :=
  bc2 (FX6_swings p0 p1 p2 σ) (fun v3 s4 =>
    some (v3, s4)
    ) (fun e2 s5 =>
    if e2 = "java/lang/IndexOutOfBoundsException" then
      some ((-9999001 : Int32), s5)
    else
    none
    )
/-- SteepleWordsLaw.tryKeep -/
def FL_tryKeep (p0 : Nat) (p1 : Int32) (σ : qH) : Option (Int32 × qH) :=
  bc2 (FX6_save p0 p1 σ) (fun v3 s4 =>
    some (v3, s4)
    ) (fun e2 s5 =>
    if e2 = "java/lang/IndexOutOfBoundsException" then
      some ((-9999001 : Int32), s5)
    else
    none
    )
/-- SteepleWordsLaw.tryBack -/
def FL_tryBack (p0 : Nat) (p1 : Int32) (σ : qH) : Option (Int32 × qH) :=
  bc2 (FX6_restore p0 p1 σ) (fun v3 s4 =>
    some (v3, s4)
    ) (fun e2 s5 =>
    if e2 = "java/lang/IndexOutOfBoundsException" then
      some ((-9999001 : Int32), s5)
    else
    if e2 = "java/lang/IllegalStateException" then
      some ((-9999003 : Int32), s5)
    else
    none
    )
/-- SteepleWordsLaw.call -/
def FL_call (tst : Nat → Nat) (p0 : Nat) (p1 : Int32) (p2 : Int32) (p3 : Int32) (p4 : Int32) (σ : qH) : Option (Int32 × qH) :=
  if p1 = (0 : Int32) then
    b2 (FL_tryAppend p0 p2 σ) fun v2 s3 =>
    some (v2, s3)
  else
  if p1 = (1 : Int32) then
    b2 (FL_tryLoad tst p0 σ) fun v6 s7 =>
    some (v6, s7)
  else
  if p1 = (2 : Int32) then
    b1 (FL_tryAbout p0 p2 σ) fun v10 =>
    some (v10, σ)
  else
  if p1 = (3 : Int32) then
    b1 (FL_tryOf p0 p2 p3 σ) fun v13 =>
    some (v13, σ)
  else
  if p1 = (4 : Int32) then
    b1 (FL_tryTeller p0 p2 p3 σ) fun v16 =>
    some (v16, σ)
  else
  if p1 = (5 : Int32) then
    b1 (FL_trySteeple p0 p2 p3 σ) fun v19 =>
    some (v19, σ)
  else
  if p1 = (6 : Int32) then
    b1 (FL_tryVote p0 p2 p3 σ) fun v22 =>
    some (v22, σ)
  else
  if p1 = (7 : Int32) then
    b2 (FL_tryBest p0 p2 p3 p4 σ) fun v25 s26 =>
    some (v25, s26)
  else
  if p1 = (8 : Int32) then
    b1 (FL_trySetting p0 p2 σ) fun v29 =>
    some (v29, σ)
  else
  if p1 = (9 : Int32) then
    b2 (FL_tryDrop p0 p2 σ) fun v32 s33 =>
    some (v32, s33)
  else
  if p1 = (10 : Int32) then
    b2 (FL_tryTrust p0 p2 p3 σ) fun v36 s37 =>
    some (v36, s37)
  else
  if p1 = (11 : Int32) then
    b2 (FL_trySurvey p0 p2 p3 σ) fun v40 s41 =>
    some (v40, s41)
  else
  if p1 = (12 : Int32) then
    b2 (FL_tryLay p0 p2 p3 σ) fun v44 s45 =>
    some (v44, s45)
  else
  if p1 = (13 : Int32) then
    b2 (FL_tryUndo p0 σ) fun v48 s49 =>
    some (v48, s49)
  else
  if p1 = (14 : Int32) then
    b1 (FL_tryApart p0 p2 p3 σ) fun v52 =>
    some (v52, σ)
  else
  if p1 = (15 : Int32) then
    b2 (FL_tryAgainst p0 p2 σ) fun v55 s56 =>
    some (v55, s56)
  else
  if p1 = (16 : Int32) then
    b2 (FL_tryWithout p0 p2 p3 σ) fun v59 s60 =>
    some (v59, s60)
  else
  if p1 = (17 : Int32) then
    b2 (FL_trySwings p0 p2 p3 σ) fun v63 s64 =>
    some (v63, s64)
  else
  if p1 = (18 : Int32) then
    b2 (FL_tryKeep p0 p2 σ) fun v67 s68 =>
    some (v67, s68)
  else
  b2 (FL_tryBack p0 p2 σ) fun v71 s72 =>
  some (v71, s72)
/-- SteepleWordsLaw.told -/
def FL_told (p0 : Nat) (p1 : Int32) (p2 : Int32) (p3 : Int32) (p4 : Int32) (p5 : Int32) (p6 : Int32) (p7 : Int32) (σ : qH) : Option (Int32 × qH) :=
  bc2 (FX6_measure p0 p1 p2 p3 p4 p5 p6 p7 σ) (fun v3 s4 =>
    some (v3, s4)
    ) (fun e2 s5 =>
    if e2 = "java/lang/IndexOutOfBoundsException" then
      some ((-9999001 : Int32), s5)
    else
    if e2 = "java/lang/IllegalArgumentException" then
      some ((-9999002 : Int32), s5)
    else
    if e2 = "java/lang/IllegalStateException" then
      some ((-9999003 : Int32), s5)
    else
    none
    )
/-- SteepleWordsLaw.act -/
def FL_act (tst : Nat → Nat) (p0 : Nat) (p1 : Int32) (σ : qH) : Option (Int32 × qH) :=
  b2 (FL_call tst p0 (2 : Int32) (0 : Int32) (0 : Int32) (0 : Int32) σ) fun v2 s3 =>
  if (irm p1 (16 : Int32)) = (0 : Int32) ∨ (irm p1 (16 : Int32)) = (1 : Int32) then
    b2 (FL_told p0 (irm (p1 / (16 : Int32)) (3 : Int32)) (irm ((p1 / (16 : Int32)) / (3 : Int32)) (6 : Int32)) (0 : Int32) ((1 : Int32) + (irm ((p1 / (16 : Int32)) / (18 : Int32)) (20 : Int32))) ((1 : Int32) + (irm ((p1 / (16 : Int32)) / (360 : Int32)) (40 : Int32))) ((1 : Int32) + (irm ((p1 / (16 : Int32)) / (21600 : Int32)) (400 : Int32))) (irm ((p1 / (16 : Int32)) / (7 : Int32)) (21 : Int32)) s3) fun v5 s6 =>
    some (v5, s6)
  else
  if (irm p1 (16 : Int32)) = (2 : Int32) then
    b2 (FL_told p0 (irm (p1 / (16 : Int32)) (3 : Int32)) (irm ((p1 / (16 : Int32)) / (3 : Int32)) (6 : Int32)) (1 : Int32) ((1 : Int32) + (irm ((p1 / (16 : Int32)) / (18 : Int32)) (9 : Int32))) ((1 : Int32) + (irm ((p1 / (16 : Int32)) / (360 : Int32)) (60 : Int32))) ((1 : Int32) + (irm ((p1 / (16 : Int32)) / (21600 : Int32)) (400 : Int32))) (irm ((p1 / (16 : Int32)) / (7 : Int32)) (21 : Int32)) s3) fun v9 s10 =>
    some (v9, s10)
  else
  if (irm p1 (16 : Int32)) = (3 : Int32) ∨ (irm p1 (16 : Int32)) = (4 : Int32) ∨ (irm p1 (16 : Int32)) = (5 : Int32) ∨ (irm p1 (16 : Int32)) = (6 : Int32) then
    b2 (FL_told p0 (irm (p1 / (16 : Int32)) (3 : Int32)) (irm ((p1 / (16 : Int32)) / (3 : Int32)) (6 : Int32)) (2 : Int32) ((1 : Int32) + (irm ((p1 / (16 : Int32)) / (18 : Int32)) (300 : Int32))) (((1 : Int32) + (irm ((p1 / (16 : Int32)) / (18 : Int32)) (300 : Int32))) + (irm ((p1 / (16 : Int32)) / (5400 : Int32)) (60 : Int32))) (0 : Int32) (0 : Int32) s3) fun v13 s14 =>
    some (v13, s14)
  else
  if (irm p1 (16 : Int32)) = (7 : Int32) then
    b2 ((
        if v2 = 0 then
          some ((-1 : Int32), s3)
        else
          if v2 = 0 then none else
          b2 (FL_call tst p0 (9 : Int32) (irm (p1 / (16 : Int32)) v2) (0 : Int32) (0 : Int32) s3) fun v20 s21 =>
          some (v20, s21)
      ) : Option (Int32 × qH)) fun x16 s17 =>
    some (x16, s17)
  else
  if (irm p1 (16 : Int32)) = (8 : Int32) then
    b2 (FL_call tst p0 (10 : Int32) (irm (p1 / (16 : Int32)) (6 : Int32)) (irm ((p1 / (16 : Int32)) / (6 : Int32)) (10 : Int32)) (0 : Int32) s3) fun v25 s26 =>
    some (v25, s26)
  else
  if (irm p1 (16 : Int32)) = (9 : Int32) ∨ (irm p1 (16 : Int32)) = (10 : Int32) then
    b2 (FX6_evening p0 s3) fun v29 s30 =>
    some (v29, s30)
  else
  if (irm p1 (16 : Int32)) = (11 : Int32) then
    b2 ((
        if (irm (p1 / (16 : Int32)) (2 : Int32)) = 0 then
          b2 (FL_call tst p0 (12 : Int32) (0 : Int32) (irm ((p1 / (16 : Int32)) / (2 : Int32)) (6 : Int32)) (0 : Int32) s3) fun v35 s36 =>
          some (v35, s36)
        else
          b2 (FL_call tst p0 (12 : Int32) (1 : Int32) (irm ((p1 / (16 : Int32)) / (2 : Int32)) (51 : Int32)) (0 : Int32) s3) fun v38 s39 =>
          some (v38, s39)
      ) : Option (Int32 × qH)) fun x32 s33 =>
    some (x32, s33)
  else
  if (irm p1 (16 : Int32)) = (12 : Int32) then
    b2 (FL_call tst p0 (13 : Int32) (0 : Int32) (0 : Int32) (0 : Int32) s3) fun v43 s44 =>
    some (v43, s44)
  else
  if (irm p1 (16 : Int32)) = (13 : Int32) then
    b2 ((
        if (irm (p1 / (16 : Int32)) (2 : Int32)) = 0 then
          b2 (FL_call tst p0 (18 : Int32) (irm ((p1 / (16 : Int32)) / (2 : Int32)) (2 : Int32)) (0 : Int32) (0 : Int32) s3) fun v49 s50 =>
          some (v49, s50)
        else
          b2 (FL_call tst p0 (19 : Int32) (irm ((p1 / (16 : Int32)) / (2 : Int32)) (2 : Int32)) (0 : Int32) (0 : Int32) s3) fun v52 s53 =>
          some (v52, s53)
      ) : Option (Int32 × qH)) fun x46 s47 =>
    some (x46, s47)
  else
  b2 (FL_call tst p0 (11 : Int32) (irm (p1 / (16 : Int32)) (3 : Int32)) ((1 : Int32) + (irm ((p1 / (16 : Int32)) / (18 : Int32)) (360 : Int32))) (0 : Int32) s3) fun v57 s58 =>
  some (v57, s58)
/-- SteepleWordsLaw.doScript -/
def FL_doScript (p0 : Nat) (p1 : Int32) (p2 : Int64) (σ : qH) : Option (Int32 × qH) :=
  bc2 (FX6_runScript p0 p1 p2 σ) (fun v3 s4 =>
    some (v3, s4)
    ) (fun e2 s5 =>
    if e2 = "java/lang/IllegalArgumentException" then
      some ((-9999002 : Int32), s5)
    else
    none
    )
/-- SteepleWordsLaw.doSimulate -/
def FL_doSimulate (p0 : Nat) (p1 : Int64) (p2 : Int32) (σ : qH) : Option (Int32 × qH) :=
  bc2 (FX6_simulate p0 p1 p2 σ) (fun v3 s4 =>
    some (v3, s4)
    ) (fun e2 s5 =>
    if e2 = "java/lang/IllegalArgumentException" then
      some ((-9999002 : Int32), s5)
    else
    none
    )
/-- SteepleWordsLaw.refuses -/
def FL_refuses (tst : Nat → Nat) (p0 : Nat) (p1 : Int32) (σ : qH) : Option (Int32 × qH) :=
  b2 (FL_call tst p0 (2 : Int32) (0 : Int32) (0 : Int32) (0 : Int32) σ) fun v2 s3 =>
  b1 ((
      if (irm p1 (2 : Int32)) = 0 then
        some ((-1 : Int32) - (irm p1 (99 : Int32)))
      else
        some (v2 + (irm p1 (99 : Int32)))
    ) : Option (Int32)) fun x4 =>
  b1 ((
      if (irm p1 (2 : Int32)) = 0 then
        some ((-1 : Int32) - (irm p1 (99 : Int32)))
      else
        some ((3 : Int32) + (irm p1 (99 : Int32)))
    ) : Option (Int32)) fun x5 =>
  b1 ((
      if (irm p1 (2 : Int32)) = 0 then
        some ((-1 : Int32) - (irm p1 (99 : Int32)))
      else
        some ((6 : Int32) + (irm p1 (99 : Int32)))
    ) : Option (Int32)) fun x6 =>
  b1 ((
      if (irm p1 (2 : Int32)) = 0 then
        some ((0 : Int32) - (irm p1 (99 : Int32)))
      else
        some ((1000 : Int32) + (irm p1 (99 : Int32)))
    ) : Option (Int32)) fun x7 =>
  b1 ((
      if (irm p1 (2 : Int32)) = 0 then
        some ((-1 : Int32) - (irm p1 (9 : Int32)))
      else
        some ((256 : Int32) + (irm p1 (9 : Int32)))
    ) : Option (Int32)) fun x8 =>
  b2 (FL_call tst p0 (0 : Int32) x8 (0 : Int32) (0 : Int32) s3) fun v10 s11 =>
  b2 ((
      if v10 = (-9999002 : Int32) then
        b2 (FL_call tst p0 (2 : Int32) ((10 : Int32) + (irm p1 (50 : Int32))) (0 : Int32) (0 : Int32) s11) fun v15 s16 =>
        if v15 = (-9999002 : Int32) then
          b2 (FL_call tst p0 (3 : Int32) x4 (99 : Int32) (0 : Int32) s16) fun v18 s19 =>
          if v18 = (-9999001 : Int32) then
            bc ((
                if v2 = 0 then
                  some (.inl s19)
                else
                  b2 (FL_call tst p0 (3 : Int32) (0 : Int32) ((11 : Int32) + (irm p1 (9 : Int32))) (0 : Int32) s19) fun v108 s109 =>
                  if v108 = (-9999002 : Int32) then
                    some (.inl s109)
                  else
                    some (.inr s109)
              ) : Option (qH ⊕ qH)) (fun s20 =>
              b2 (FL_call tst p0 (4 : Int32) x6 (9 : Int32) (0 : Int32) s20) fun v23 s24 =>
              if v23 = (-9999001 : Int32) then
                b2 (FL_call tst p0 (4 : Int32) (0 : Int32) ((5 : Int32) + (irm p1 (9 : Int32))) (0 : Int32) s24) fun v26 s27 =>
                if v26 = (-9999002 : Int32) then
                  b2 (FL_call tst p0 (5 : Int32) x5 (9 : Int32) (0 : Int32) s27) fun v29 s30 =>
                  if v29 = (-9999001 : Int32) then
                    b2 (FL_call tst p0 (5 : Int32) (0 : Int32) ((3 : Int32) + (irm p1 (9 : Int32))) (0 : Int32) s30) fun v32 s33 =>
                    if v32 = (-9999002 : Int32) then
                      b2 (FL_call tst p0 (6 : Int32) x5 (0 : Int32) (0 : Int32) s33) fun v35 s36 =>
                      if v35 = (-9999001 : Int32) then
                        b2 (FL_call tst p0 (6 : Int32) (0 : Int32) x7 (0 : Int32) s36) fun v38 s39 =>
                        if v38 = (-9999002 : Int32) then
                          b2 (FL_call tst p0 (7 : Int32) x5 (9 : Int32) (9 : Int32) s39) fun v41 s42 =>
                          if v41 = (-9999001 : Int32) then
                            b2 (FL_call tst p0 (7 : Int32) (0 : Int32) ((3 : Int32) + (irm p1 (9 : Int32))) (0 : Int32) s42) fun v44 s45 =>
                            if v44 = (-9999002 : Int32) then
                              b2 (FL_call tst p0 (7 : Int32) (0 : Int32) (0 : Int32) ((2 : Int32) + (irm p1 (9 : Int32))) s45) fun v47 s48 =>
                              if v47 = (-9999002 : Int32) then
                                b2 (FL_call tst p0 (8 : Int32) ((2 : Int32) + (irm p1 (9 : Int32))) (0 : Int32) (0 : Int32) s48) fun v50 s51 =>
                                if v50 = (-9999002 : Int32) then
                                  b2 (FL_told p0 x5 (0 : Int32) (9 : Int32) (0 : Int32) (0 : Int32) (0 : Int32) (0 : Int32) s51) fun v53 s54 =>
                                  if v53 = (-9999001 : Int32) then
                                    b2 (FL_told p0 (0 : Int32) x6 (9 : Int32) (0 : Int32) (0 : Int32) (0 : Int32) (0 : Int32) s54) fun v56 s57 =>
                                    if v56 = (-9999001 : Int32) then
                                      b1 ((
                                          if (irm p1 (2 : Int32)) = 0 then
                                            some (-1 : Int32)
                                          else
                                            some ((3 : Int32) + (irm p1 (9 : Int32)))
                                        ) : Option (Int32)) fun x58 =>
                                      b2 (FL_told p0 (0 : Int32) (0 : Int32) x58 (5 : Int32) (5 : Int32) (5 : Int32) (0 : Int32) s57) fun v60 s61 =>
                                      if v60 = (-9999002 : Int32) then
                                        b1 ((
                                            if (irm p1 (2 : Int32)) = 0 then
                                              some (0 : Int32)
                                            else
                                              some ((21 : Int32) + (irm p1 (9 : Int32)))
                                          ) : Option (Int32)) fun x62 =>
                                        b2 (FL_told p0 (0 : Int32) (0 : Int32) (0 : Int32) x62 (5 : Int32) (5 : Int32) (0 : Int32) s61) fun v64 s65 =>
                                        if v64 = (-9999002 : Int32) then
                                          b1 ((
                                              if (irm p1 (2 : Int32)) = 0 then
                                                some (0 : Int32)
                                              else
                                                some ((41 : Int32) + (irm p1 (9 : Int32)))
                                            ) : Option (Int32)) fun x66 =>
                                          b2 (FL_told p0 (0 : Int32) (0 : Int32) (0 : Int32) (5 : Int32) x66 (5 : Int32) (0 : Int32) s65) fun v68 s69 =>
                                          if v68 = (-9999002 : Int32) then
                                            b1 ((
                                                if (irm p1 (2 : Int32)) = 0 then
                                                  some (0 : Int32)
                                                else
                                                  some ((10 : Int32) + (irm p1 (9 : Int32)))
                                              ) : Option (Int32)) fun x70 =>
                                            b2 (FL_told p0 (0 : Int32) (0 : Int32) (1 : Int32) x70 (5 : Int32) (5 : Int32) (0 : Int32) s69) fun v72 s73 =>
                                            if v72 = (-9999002 : Int32) then
                                              b1 ((
                                                  if (irm p1 (2 : Int32)) = 0 then
                                                    some (0 : Int32)
                                                  else
                                                    some ((61 : Int32) + (irm p1 (9 : Int32)))
                                                ) : Option (Int32)) fun x74 =>
                                              b2 (FL_told p0 (0 : Int32) (0 : Int32) (1 : Int32) (5 : Int32) x74 (5 : Int32) (0 : Int32) s73) fun v76 s77 =>
                                              if v76 = (-9999002 : Int32) then
                                                b1 ((
                                                    if (2 : Int32) ≤ (irm p1 (4 : Int32)) then
                                                      some ((401 : Int32) + (irm p1 (9 : Int32)))
                                                    else
                                                      some (0 : Int32)
                                                  ) : Option (Int32)) fun x78 =>
                                                b2 (FL_told p0 (0 : Int32) (0 : Int32) (irm p1 (2 : Int32)) (5 : Int32) (5 : Int32) x78 (0 : Int32) s77) fun v80 s81 =>
                                                if v80 = (-9999002 : Int32) then
                                                  b1 ((
                                                      if (2 : Int32) ≤ (irm p1 (4 : Int32)) then
                                                        some ((21 : Int32) + (irm p1 (9 : Int32)))
                                                      else
                                                        some (-1 : Int32)
                                                    ) : Option (Int32)) fun x82 =>
                                                  b2 (FL_told p0 (0 : Int32) (0 : Int32) (irm p1 (2 : Int32)) (5 : Int32) (5 : Int32) (5 : Int32) x82 s81) fun v84 s85 =>
                                                  if v84 = (-9999002 : Int32) then
                                                    b1 ((
                                                        if (irm p1 (2 : Int32)) = 0 then
                                                          some (6 : Int32)
                                                        else
                                                          some ((1000 : Int32) + (irm p1 (9 : Int32)))
                                                      ) : Option (Int32)) fun x86 =>
                                                    b2 (FL_told p0 (0 : Int32) (0 : Int32) (2 : Int32) (7 : Int32) x86 (0 : Int32) (0 : Int32) s85) fun v88 s89 =>
                                                    if v88 = (-9999002 : Int32) then
                                                      b2 (FL_told p0 (0 : Int32) (0 : Int32) (2 : Int32) (0 : Int32) (7 : Int32) (0 : Int32) (0 : Int32) s89) fun v91 s92 =>
                                                      if v91 = (-9999002 : Int32) then
                                                        b2 (FL_told p0 (0 : Int32) (0 : Int32) (2 : Int32) (5 : Int32) (7 : Int32) ((1 : Int32) + (irm p1 (9 : Int32))) (0 : Int32) s92) fun v94 s95 =>
                                                        if v94 = (-9999002 : Int32) then
                                                          b2 (FL_told p0 (0 : Int32) (0 : Int32) (2 : Int32) (5 : Int32) (7 : Int32) (0 : Int32) ((1 : Int32) + (irm p1 (9 : Int32))) s95) fun v97 s98 =>
                                                          if v97 = (-9999002 : Int32) then
                                                            some ((1 : Int32), s98)
                                                          else
                                                            some ((0 : Int32), s98)
                                                        else
                                                          some ((0 : Int32), s95)
                                                      else
                                                        some ((0 : Int32), s92)
                                                    else
                                                      some ((0 : Int32), s89)
                                                  else
                                                    some ((0 : Int32), s85)
                                                else
                                                  some ((0 : Int32), s81)
                                              else
                                                some ((0 : Int32), s77)
                                            else
                                              some ((0 : Int32), s73)
                                          else
                                            some ((0 : Int32), s69)
                                        else
                                          some ((0 : Int32), s65)
                                      else
                                        some ((0 : Int32), s61)
                                    else
                                      some ((0 : Int32), s57)
                                  else
                                    some ((0 : Int32), s54)
                                else
                                  some ((0 : Int32), s51)
                              else
                                some ((0 : Int32), s48)
                            else
                              some ((0 : Int32), s45)
                          else
                            some ((0 : Int32), s42)
                        else
                          some ((0 : Int32), s39)
                      else
                        some ((0 : Int32), s36)
                    else
                      some ((0 : Int32), s33)
                  else
                    some ((0 : Int32), s30)
                else
                  some ((0 : Int32), s27)
              else
                some ((0 : Int32), s24)
              ) (fun s21 =>
              some ((0 : Int32), s21)
              )
          else
            some ((0 : Int32), s19)
        else
          some ((0 : Int32), s16)
      else
        some ((0 : Int32), s11)
    ) : Option (Int32 × qH)) fun x12 s13 =>
  b2 ((
      if x12 = 0 then
        some ((0 : Int32), s13)
      else
        b2 (FL_call tst p0 (9 : Int32) x4 (0 : Int32) (0 : Int32) s13) fun v117 s118 =>
        if v117 = (-9999001 : Int32) then
          b2 (FL_call tst p0 (10 : Int32) x6 (99 : Int32) (0 : Int32) s118) fun v120 s121 =>
          if v120 = (-9999001 : Int32) then
            b1 ((
                if (irm p1 (2 : Int32)) = 0 then
                  some (-1 : Int32)
                else
                  some ((10 : Int32) + (irm p1 (9 : Int32)))
              ) : Option (Int32)) fun x122 =>
            b2 (FL_call tst p0 (10 : Int32) (0 : Int32) x122 (0 : Int32) s121) fun v124 s125 =>
            if v124 = (-9999002 : Int32) then
              b2 (FL_call tst p0 (11 : Int32) x5 (0 : Int32) (0 : Int32) s125) fun v127 s128 =>
              if v127 = (-9999001 : Int32) then
                b2 (FL_call tst p0 (11 : Int32) (0 : Int32) x7 (0 : Int32) s128) fun v130 s131 =>
                if v130 = (-9999002 : Int32) then
                  b1 ((
                      if (irm p1 (2 : Int32)) = 0 then
                        some (-1 : Int32)
                      else
                        some ((6 : Int32) + (irm p1 (9 : Int32)))
                    ) : Option (Int32)) fun x132 =>
                  b2 (FL_call tst p0 (12 : Int32) (0 : Int32) x132 (0 : Int32) s131) fun v134 s135 =>
                  if v134 = (-9999002 : Int32) then
                    b1 ((
                        if (irm p1 (2 : Int32)) = 0 then
                          some (-1 : Int32)
                        else
                          some ((51 : Int32) + (irm p1 (9 : Int32)))
                      ) : Option (Int32)) fun x136 =>
                    b2 (FL_call tst p0 (12 : Int32) (1 : Int32) x136 (0 : Int32) s135) fun v138 s139 =>
                    if v138 = (-9999002 : Int32) then
                      b2 (FL_call tst p0 (12 : Int32) ((2 : Int32) + (irm p1 (9 : Int32))) (1 : Int32) (0 : Int32) s139) fun v141 s142 =>
                      if v141 = (-9999002 : Int32) then
                        b2 (FL_call tst p0 (14 : Int32) x4 (0 : Int32) (0 : Int32) s142) fun v144 s145 =>
                        if v144 = (-9999001 : Int32) then
                          b2 (FL_call tst p0 (14 : Int32) (0 : Int32) x4 (0 : Int32) s145) fun v147 s148 =>
                          if v147 = (-9999001 : Int32) then
                            b2 (FL_call tst p0 (15 : Int32) x5 (0 : Int32) (0 : Int32) s148) fun v150 s151 =>
                            if v150 = (-9999001 : Int32) then
                              b2 (FL_call tst p0 (16 : Int32) x4 (9 : Int32) (0 : Int32) s151) fun v153 s154 =>
                              if v153 = (-9999001 : Int32) then
                                b2 (FL_call tst p0 (17 : Int32) x6 (0 : Int32) (0 : Int32) s154) fun v156 s157 =>
                                if v156 = (-9999001 : Int32) then
                                  b2 (FL_call tst p0 (17 : Int32) (0 : Int32) x5 (0 : Int32) s157) fun v159 s160 =>
                                  if v159 = (-9999001 : Int32) then
                                    b2 (FL_call tst p0 (18 : Int32) ((2 : Int32) + (irm p1 (50 : Int32))) (0 : Int32) (0 : Int32) s160) fun v162 s163 =>
                                    if v162 = (-9999001 : Int32) then
                                      b2 (FL_call tst p0 (19 : Int32) ((-1 : Int32) - (irm p1 (9 : Int32))) (0 : Int32) (0 : Int32) s163) fun v165 s166 =>
                                      if v165 = (-9999001 : Int32) then
                                        b2 (FL_doScript p0 (0 : Int32) (0 : Int64) s166) fun v168 s169 =>
                                        if v168 = (-9999002 : Int32) then
                                          b2 (FL_doScript p0 (1 : Int32) ((1000000 : Int64) + (p1).toInt64) s169) fun v171 s172 =>
                                          if v171 = (-9999002 : Int32) then
                                            b2 (FL_doSimulate p0 (p1).toInt64 ((61 : Int32) + (irm p1 (9 : Int32))) s172) fun v174 s175 =>
                                            if v174 = (-9999002 : Int32) then
                                              some ((1 : Int32), s175)
                                            else
                                              some ((0 : Int32), s175)
                                          else
                                            some ((0 : Int32), s172)
                                        else
                                          some ((0 : Int32), s169)
                                      else
                                        some ((0 : Int32), s166)
                                    else
                                      some ((0 : Int32), s163)
                                  else
                                    some ((0 : Int32), s160)
                                else
                                  some ((0 : Int32), s157)
                              else
                                some ((0 : Int32), s154)
                            else
                              some ((0 : Int32), s151)
                          else
                            some ((0 : Int32), s148)
                        else
                          some ((0 : Int32), s145)
                      else
                        some ((0 : Int32), s142)
                    else
                      some ((0 : Int32), s139)
                  else
                    some ((0 : Int32), s135)
                else
                  some ((0 : Int32), s131)
              else
                some ((0 : Int32), s128)
            else
              some ((0 : Int32), s125)
          else
            some ((0 : Int32), s121)
        else
          some ((0 : Int32), s118)
    ) : Option (Int32 × qH)) fun x114 s115 =>
  b2 ((
      if x114 = 0 then
        some ((0 : Int32), s115)
      else
        bc ((
            if v2 < (16 : Int32) then
              some (.inl s115)
            else
              b2 (FL_told p0 (0 : Int32) (0 : Int32) (2 : Int32) (5 : Int32) (5 : Int32) (0 : Int32) (0 : Int32) s115) fun v187 s188 =>
              if v187 = (-9999003 : Int32) then
                some (.inl s188)
              else
                some (.inr s188)
          ) : Option (qH ⊕ qH)) (fun s181 =>
          if v2 = 0 then
            some ((1 : Int32), s181)
          else
            b2 (FL_call tst p0 (16 : Int32) (0 : Int32) ((3 : Int32) + (irm p1 (9 : Int32))) (0 : Int32) s181) fun v184 s185 =>
            if v184 = (-9999002 : Int32) then
              some ((1 : Int32), s185)
            else
              some ((0 : Int32), s185)
          ) (fun s182 =>
          some ((0 : Int32), s182)
          )
    ) : Option (Int32 × qH)) fun x179 s180 =>
  if x179 = 0 ∨ x179 = 1 then
    some (x179, s180)
  else none
/-- SteepleWordsLaw.alike -/
def FL_alike_L47 (tst : Nat → Nat) (a0 : Nat) (a1 : Nat) (a2 : Int32) : Nat → Int32 → Int32 → qH → Option (Int32 × qH)
  | 0, _, _, _ => none
  | q + 1, y3, y4, σ =>
    if (16 : Int32) ≤ y4 then
      some (y3, σ)
    else
      if y3 = 0 then
        some (y3, σ)
      else
        b2 (FL_call tst a0 (2 : Int32) y4 (0 : Int32) (0 : Int32) σ) fun v13 s14 =>
        b2 (FL_call tst a1 (2 : Int32) y4 (0 : Int32) (0 : Int32) s14) fun v16 s17 =>
        b2 ((
            if v13 = v16 then
              b2 (FL_call tst a0 (3 : Int32) y4 (irm a2 (11 : Int32)) (0 : Int32) s17) fun v21 s22 =>
              b2 (FL_call tst a1 (3 : Int32) y4 (irm a2 (11 : Int32)) (0 : Int32) s22) fun v24 s25 =>
              if v21 = v24 then
                b2 (FL_call tst a0 (4 : Int32) y4 (irm a2 (5 : Int32)) (0 : Int32) s25) fun v27 s28 =>
                b2 (FL_call tst a1 (4 : Int32) y4 (irm a2 (5 : Int32)) (0 : Int32) s28) fun v30 s31 =>
                if v27 = v30 then
                  b2 (FL_call tst a0 (5 : Int32) y4 (irm a2 (3 : Int32)) (0 : Int32) s31) fun v33 s34 =>
                  b2 (FL_call tst a1 (5 : Int32) y4 (irm a2 (3 : Int32)) (0 : Int32) s34) fun v36 s37 =>
                  if v33 = v36 then
                    b2 (FL_call tst a0 (17 : Int32) (irm a2 (6 : Int32)) y4 (0 : Int32) s37) fun v39 s40 =>
                    b2 (FL_call tst a1 (17 : Int32) (irm a2 (6 : Int32)) y4 (0 : Int32) s40) fun v42 s43 =>
                    if v39 = v42 then
                      some ((1 : Int32), s43)
                    else
                      some ((0 : Int32), s43)
                  else
                    some ((0 : Int32), s37)
                else
                  some ((0 : Int32), s31)
              else
                some ((0 : Int32), s25)
            else
              some ((0 : Int32), s17)
          ) : Option (Int32 × qH)) fun x18 s19 =>
        FL_alike_L47 tst a0 a1 a2 q x18 (y4 + (1 : Int32)) s19
def FL_alike (tst : Nat → Nat) (p0 : Nat) (p1 : Nat) (p2 : Int32) (σ : qH) : Option (Int32 × qH) :=
  b2 (FL_doSimulate p0 (p2).toInt64 ((1 : Int32) + (irm p2 (60 : Int32))) σ) fun v2 s3 =>
  b2 (FL_doSimulate p1 (p2).toInt64 ((1 : Int32) + (irm p2 (60 : Int32))) s3) fun v5 s6 =>
  b1 ((
      if v2 = v5 then
        b1 (FX6_truest p0 s6) fun v9 =>
        b1 (FX6_truest p1 s6) fun v11 =>
        if v9 = v11 then
          some (1 : Int32)
        else
          some (0 : Int32)
      else
        some (0 : Int32)
    ) : Option (Int32)) fun x7 =>
  b2 (FL_alike_L47 tst p0 p1 p2 20 x7 (0 : Int32) s6) fun x45 s46 =>
  if x45 = 0 ∨ x45 = 1 then
    some (x45, s46)
  else none
/-- SteepleWordsLaw.holds -/
def FL_holds_L79 (tst : Nat → Nat) (a0 : Nat) (a1 : Int32) (a2 : Int32) (a3 : Int32) (a4 : Int32) (a5 : Int32) (a6 : Int32) (a7 : Int32) (a9 : Int32) (a11 : Int32) : Nat → Int32 → Int32 → Int32 → qH → Option (Int32 × Int32 × qH)
  | 0, _, _, _, _ => none
  | q + 1, y8, y10, y12, σ =>
    if a2 ≤ y12 then
      some (y8, y10, σ)
    else
      if y8 = 0 then
        some (y8, y10, σ)
      else
        b2 (FL_call tst a0 (14 : Int32) a9 y12 (0 : Int32) σ) fun v13 s14 =>
        b2 (FL_call tst a0 (3 : Int32) a9 (0 : Int32) (0 : Int32) s14) fun v16 s17 =>
        b2 (FL_call tst a0 (3 : Int32) y12 (0 : Int32) (0 : Int32) s17) fun v19 s20 =>
        b1 ((
            if v16 = v19 then
              some (1 : Int32)
            else
              some (0 : Int32)
          ) : Option (Int32)) fun x21 =>
        b2 ((
            if v13 ≤ 0 then
              some ((0 : Int32), s20)
            else
              b2 (FL_call tst a0 (3 : Int32) a9 (1 : Int32) (0 : Int32) s20) fun v25 s26 =>
              b2 (FL_call tst a0 (3 : Int32) y12 (1 : Int32) (0 : Int32) s26) fun v28 s29 =>
              if v25 = v28 then
                some ((0 : Int32), s29)
              else
                some ((1 : Int32), s29)
          ) : Option (Int32 × qH)) fun x22 s23 =>
        b2 (FL_call tst a0 (14 : Int32) y12 a9 (0 : Int32) s23) fun v31 s32 =>
        b1 ((
            if v13 = v31 then
              b1 ((
                  if v13 = (-1 : Int32) then
                    some (1 : Int32)
                  else
                    some (0 : Int32)
                ) : Option (Int32)) fun x34 =>
              b1 ((
                  if x21 = 0 then
                    some (1 : Int32)
                  else
                    some (0 : Int32)
                ) : Option (Int32)) fun x35 =>
              if x34 = x35 then
                if a9 = y12 then
                  if v13 = 0 then
                    some (1 : Int32)
                  else
                    some (0 : Int32)
                else
                  some (1 : Int32)
              else
                some (0 : Int32)
            else
              some (0 : Int32)
          ) : Option (Int32)) fun x33 =>
        FL_holds_L79 tst a0 a1 a2 a3 a4 a5 a6 a7 a9 a11 q x33 (y10 + x22) (y12 + (1 : Int32)) s32
def FL_holds_L51 (tst : Nat → Nat) (a0 : Nat) (a1 : Int32) (a2 : Int32) (a4 : Int32) (a5 : Int32) (a6 : Int32) (a7 : Int32) : Nat → Int32 → Int32 → Int32 → qH → Option (Int32 × Int32 × qH)
  | 0, _, _, _, _ => none
  | q + 1, y3, y8, y9, σ =>
    if a2 ≤ y9 then
      some (y3, y8, σ)
    else
      if y8 = 0 then
        some (y3, y8, σ)
      else
        b2 (FL_call tst a0 (3 : Int32) y9 (2 : Int32) (0 : Int32) σ) fun v10 s11 =>
        b3 (FL_holds_L79 tst a0 a1 a2 y3 a4 a5 a6 a7 y9 v10 20 y8 (0 : Int32) (0 : Int32) s11) fun x41 x42 s43 =>
        b2 ((
            if x41 = 0 then
              some ((0 : Int32), s43)
            else
              b2 (FL_call tst a0 (3 : Int32) y9 (10 : Int32) (0 : Int32) s43) fun v47 s48 =>
              if x42 = v47 then
                b2 (FL_call tst a0 (3 : Int32) y9 (7 : Int32) (0 : Int32) s48) fun v50 s51 =>
                if v50 < (1 : Int32) then
                  some ((0 : Int32), s51)
                else
                  b2 (FL_call tst a0 (3 : Int32) y9 (7 : Int32) (0 : Int32) s51) fun v53 s54 =>
                  b2 (FL_call tst a0 (3 : Int32) y9 (8 : Int32) (0 : Int32) s54) fun v56 s57 =>
                  if v56 < v53 then
                    some ((0 : Int32), s57)
                  else
                    b2 (FL_call tst a0 (3 : Int32) y9 (8 : Int32) (0 : Int32) s57) fun v59 s60 =>
                    if (999 : Int32) < v59 then
                      some ((0 : Int32), s60)
                    else
                      b2 (FL_call tst a0 (3 : Int32) y9 (9 : Int32) (0 : Int32) s60) fun v62 s63 =>
                      b2 (FL_call tst a0 (3 : Int32) y9 (1 : Int32) (0 : Int32) s63) fun v65 s66 =>
                      b2 (FL_call tst a0 (4 : Int32) v65 (0 : Int32) (0 : Int32) s66) fun v68 s69 =>
                      b2 ((
                          if (2 : Int32) ≤ v10 then
                            some ((0 : Int32), s69)
                          else
                            b2 (FL_call tst a0 (8 : Int32) (0 : Int32) (0 : Int32) (0 : Int32) s69) fun v73 s74 =>
                            some (v73, s74)
                        ) : Option (Int32 × qH)) fun x70 s71 =>
                      if v62 = (v68 + x70) then
                        some ((1 : Int32), s71)
                      else
                        some ((0 : Int32), s71)
              else
                some ((0 : Int32), s48)
          ) : Option (Int32 × qH)) fun x44 s45 =>
        FL_holds_L51 tst a0 a1 a2 a4 a5 a6 a7 q (y3 + x42) x44 (y9 + (1 : Int32)) s45
def FL_holds_L378 (tst : Nat → Nat) (a0 : Nat) (a1 : Int32) (a2 : Int32) (a3 : Int32) : Nat → Int32 → Int32 → Int32 → Int32 → Int32 → Int32 → Int32 → qH → Option (Int32 × Int32 × Int32 × Int32 × Int32 × Int32 × qH)
  | 0, _, _, _, _, _, _, _, _ => none
  | q + 1, y4, y5, y6, y7, y8, y9, y10, σ =>
    if (6 : Int32) ≤ y10 then
      some (y4, y5, y6, y7, y8, y9, σ)
    else
      if y8 = 0 then
        some (y4, y5, y6, y7, y8, y9, σ)
      else
        b2 (FL_call tst a0 (4 : Int32) y10 (0 : Int32) (0 : Int32) σ) fun v82 s83 =>
        b2 (FL_call tst a0 (4 : Int32) y10 (1 : Int32) (0 : Int32) s83) fun v85 s86 =>
        b2 (FL_call tst a0 (4 : Int32) y10 (2 : Int32) (0 : Int32) s86) fun v88 s89 =>
        b2 (FL_call tst a0 (4 : Int32) y10 (3 : Int32) (0 : Int32) s89) fun v91 s92 =>
        b2 (FL_call tst a0 (4 : Int32) y10 (4 : Int32) (0 : Int32) s92) fun v94 s95 =>
        b2 (FL_call tst a0 (4 : Int32) y10 (0 : Int32) (0 : Int32) s95) fun v97 s98 =>
        b2 ((
            if v97 < 0 then
              some ((0 : Int32), s98)
            else
              b2 (FL_call tst a0 (4 : Int32) y10 (0 : Int32) (0 : Int32) s98) fun v102 s103 =>
              if (9 : Int32) < v102 then
                some ((0 : Int32), s103)
              else
                some ((1 : Int32), s103)
          ) : Option (Int32 × qH)) fun x99 s100 =>
        FL_holds_L378 tst a0 a1 a2 a3 q (y4 + v88) (y5 + v91) (y6 + v82) (y7 + v85) x99 (y9 + v94) (y10 + (1 : Int32)) s100
def FL_holds_L502 (tst : Nat → Nat) (a0 : Nat) (a1 : Int32) (a2 : Int32) (a3 : Int32) (a4 : Int32) (a5 : Int32) (a6 : Int32) (a7 : Int32) (a9 : Int32) : Nat → Int32 → Int32 → qH → Option (Int32 × qH)
  | 0, _, _, _ => none
  | q + 1, y8, y10, σ =>
    if (3 : Int32) ≤ y10 then
      some (y8, σ)
    else
      if y8 = 0 then
        some (y8, σ)
      else
        b2 (FL_call tst a0 (7 : Int32) y10 (0 : Int32) (0 : Int32) σ) fun v113 s114 =>
        b2 (FL_call tst a0 (7 : Int32) y10 (1 : Int32) (0 : Int32) s114) fun v116 s117 =>
        b2 (FL_call tst a0 (7 : Int32) y10 (2 : Int32) (0 : Int32) s117) fun v119 s120 =>
        b2 (FL_call tst a0 (6 : Int32) y10 ((1 : Int32) + (irm a1 (999 : Int32))) (0 : Int32) s120) fun v122 s123 =>
        b2 (FL_call tst a0 (15 : Int32) y10 (0 : Int32) (0 : Int32) s123) fun v125 s126 =>
        b2 (FL_call tst a0 (7 : Int32) y10 (0 : Int32) (1 : Int32) s126) fun v128 s129 =>
        b2 ((
            if v113 = v128 then
              b2 (FL_call tst a0 (7 : Int32) y10 (1 : Int32) (1 : Int32) s129) fun v133 s134 =>
              if v116 = v133 then
                b2 (FL_call tst a0 (7 : Int32) y10 (2 : Int32) (1 : Int32) s134) fun v136 s137 =>
                if v119 = v136 then
                  if v113 < (1 : Int32) then
                    some ((0 : Int32), s137)
                  else
                    if v116 < v113 then
                      some ((0 : Int32), s137)
                    else
                      if (999 : Int32) < v116 then
                        some ((0 : Int32), s137)
                      else
                        b2 (FL_call tst a0 (6 : Int32) y10 v113 (0 : Int32) s137) fun v139 s140 =>
                        if v139 = v119 then
                          b2 (FL_call tst a0 (6 : Int32) y10 v116 (0 : Int32) s140) fun v142 s143 =>
                          if v142 = v119 then
                            bc ((
                                if v122 < v119 then
                                  some (.inl ())
                                else
                                  if v122 = v119 then
                                    if ((1 : Int32) + (irm a1 (999 : Int32))) < v113 then
                                      some (.inr ())
                                    else
                                      some (.inl ())
                                  else
                                    some (.inr ())
                              ) : Option (Unit ⊕ Unit)) (fun _ =>
                              bc ((
                                  if ((1 : Int32) + (irm a1 (999 : Int32))) < v113 then
                                    some (.inl ())
                                  else
                                    if v116 < ((1 : Int32) + (irm a1 (999 : Int32))) then
                                      some (.inl ())
                                    else
                                      if v122 = v119 then
                                        some (.inl ())
                                      else
                                        some (.inr ())
                                ) : Option (Unit ⊕ Unit)) (fun _ =>
                                bc ((
                                    if v116 = (999 : Int32) then
                                      some (.inl s143)
                                    else
                                      b2 (FL_call tst a0 (6 : Int32) y10 (v116 + (1 : Int32)) (0 : Int32) s143) fun v174 s175 =>
                                      if v119 ≤ v174 then
                                        some (.inr s175)
                                      else
                                        some (.inl s175)
                                  ) : Option (qH ⊕ qH)) (fun s144 =>
                                  b2 (FL_call tst a0 (5 : Int32) y10 (2 : Int32) (0 : Int32) s144) fun v147 s148 =>
                                  if v147 < v119 then
                                    some ((0 : Int32), s148)
                                  else
                                    bc ((
                                        if v125 = (-1 : Int32) then
                                          some (.inl s148)
                                        else
                                          b2 (FL_call tst a0 (3 : Int32) v125 (0 : Int32) (0 : Int32) s148) fun v155 s156 =>
                                          if v155 = y10 then
                                            b2 (FL_call tst a0 (3 : Int32) v125 (7 : Int32) (0 : Int32) s156) fun v158 s159 =>
                                            if v113 < v158 then
                                              some (.inl s159)
                                            else
                                              b2 (FL_call tst a0 (3 : Int32) v125 (8 : Int32) (0 : Int32) s159) fun v161 s162 =>
                                              if v113 ≤ v161 then
                                                some (.inr s162)
                                              else
                                                some (.inl s162)
                                          else
                                            some (.inr s156)
                                      ) : Option (qH ⊕ qH)) (fun s149 =>
                                      b2 (FL_call tst a0 (5 : Int32) y10 (0 : Int32) (0 : Int32) s149) fun v152 s153 =>
                                      if 0 < v152 then
                                        some ((1 : Int32), s153)
                                      else
                                        if v113 = (1 : Int32) then
                                          if v116 = (999 : Int32) then
                                            if v119 = 0 then
                                              some ((1 : Int32), s153)
                                            else
                                              some ((0 : Int32), s153)
                                          else
                                            some ((0 : Int32), s153)
                                        else
                                          some ((0 : Int32), s153)
                                      ) (fun s150 =>
                                      some ((0 : Int32), s150)
                                      )
                                  ) (fun s145 =>
                                  some ((0 : Int32), s145)
                                  )
                                ) (fun _ =>
                                some ((0 : Int32), s143)
                                )
                              ) (fun _ =>
                              some ((0 : Int32), s143)
                              )
                          else
                            some ((0 : Int32), s143)
                        else
                          some ((0 : Int32), s140)
                else
                  some ((0 : Int32), s137)
              else
                some ((0 : Int32), s134)
            else
              some ((0 : Int32), s129)
          ) : Option (Int32 × qH)) fun x130 s131 =>
        FL_holds_L502 tst a0 a1 a2 a3 a4 a5 a6 a7 a9 q x130 (y10 + (1 : Int32)) s131
def FL_holds (tst : Nat → Nat) (p0 : Nat) (p1 : Int32) (σ : qH) : Option (Int32 × qH) :=
  b2 (FL_call tst p0 (2 : Int32) (0 : Int32) (0 : Int32) (0 : Int32) σ) fun v2 s3 =>
  b2 ((
      if (16 : Int32) < v2 then
        some ((0 : Int32), s3)
      else
        b2 (FL_call tst p0 (2 : Int32) (1 : Int32) (0 : Int32) (0 : Int32) s3) fun v7 s8 =>
        if v7 < v2 then
          some ((0 : Int32), s8)
        else
          some ((1 : Int32), s8)
    ) : Option (Int32 × qH)) fun x4 s5 =>
  b3 (FL_holds_L51 tst p0 p1 v2 (0 : Int32) (0 : Int32) (0 : Int32) (0 : Int32) 20 (0 : Int32) x4 (0 : Int32) s5) fun x78 x79 s80 =>
  b7 (FL_holds_L378 tst p0 p1 v2 x78 20 (0 : Int32) (0 : Int32) (0 : Int32) (0 : Int32) x79 (0 : Int32) (0 : Int32) s80) fun x105 x106 x107 x108 x109 x110 s111 =>
  b2 (FL_holds_L502 tst p0 p1 v2 x78 x105 x106 x107 x108 x110 20 x109 (0 : Int32) s111) fun x183 s184 =>
  b2 ((
      if x183 = 0 then
        some ((0 : Int32), s184)
      else
        b2 (FL_call tst p0 (2 : Int32) (4 : Int32) (0 : Int32) (0 : Int32) s184) fun v188 s189 =>
        if x78 = ((2 : Int32) * v188) then
          if x110 = x78 then
            b2 (FL_call tst p0 (2 : Int32) (5 : Int32) (0 : Int32) (0 : Int32) s189) fun v191 s192 =>
            b2 (FL_call tst p0 (2 : Int32) (4 : Int32) (0 : Int32) (0 : Int32) s192) fun v194 s195 =>
            if v194 < v191 then
              some ((0 : Int32), s195)
            else
              b2 (FL_call tst p0 (2 : Int32) (6 : Int32) (0 : Int32) (0 : Int32) s195) fun v197 s198 =>
              if x107 = v197 then
                b2 (FL_call tst p0 (2 : Int32) (8 : Int32) (0 : Int32) (0 : Int32) s198) fun v200 s201 =>
                if x105 = v200 then
                  b2 (FL_call tst p0 (2 : Int32) (9 : Int32) (0 : Int32) (0 : Int32) s201) fun v203 s204 =>
                  if x106 = v203 then
                    if x108 = v2 then
                      b2 (FL_call tst p0 (5 : Int32) (0 : Int32) (0 : Int32) (0 : Int32) s204) fun v206 s207 =>
                      b2 (FL_call tst p0 (5 : Int32) (1 : Int32) (0 : Int32) (0 : Int32) s207) fun v209 s210 =>
                      b2 (FL_call tst p0 (5 : Int32) (2 : Int32) (0 : Int32) (0 : Int32) s210) fun v212 s213 =>
                      if ((v206 + v209) + v212) = v2 then
                        b1 (FX6_truest p0 s213) fun v215 =>
                        b1 ((
                            if v215 = (-1 : Int32) then
                              some (1 : Int32)
                            else
                              some (0 : Int32)
                          ) : Option (Int32)) fun x216 =>
                        b1 ((
                            if (x105 + x106) = 0 then
                              some (1 : Int32)
                            else
                              some (0 : Int32)
                          ) : Option (Int32)) fun x217 =>
                        if x216 = x217 then
                          some ((1 : Int32), s213)
                        else
                          some ((0 : Int32), s213)
                      else
                        some ((0 : Int32), s213)
                    else
                      some ((0 : Int32), s204)
                  else
                    some ((0 : Int32), s204)
                else
                  some ((0 : Int32), s201)
              else
                some ((0 : Int32), s198)
          else
            some ((0 : Int32), s189)
        else
          some ((0 : Int32), s189)
    ) : Option (Int32 × qH)) fun x185 s186 =>
  if x185 = 0 ∨ x185 = 1 then
    some (x185, s186)
  else none
/-- SteepleWordsLaw.thrown -/
def FL_thrown (p0 : Int32) (σ : qH) : Option (Int32) :=
  b1 ((
      if p0 = (-9999001 : Int32) then
        some (1 : Int32)
      else
        if p0 = (-9999002 : Int32) then
          some (1 : Int32)
        else
          if p0 = (-9999003 : Int32) then
            some (1 : Int32)
          else
            some (0 : Int32)
    ) : Option (Int32)) fun x1 =>
  if x1 = 0 ∨ x1 = 1 then
    some x1
  else none
/-- SteepleWordsLaw.surveys -/
def FL_surveys_L224 (tst : Nat → Nat) (a0 : Nat) (a1 : Nat) (a3 : Int32) (a6 : Int32) (a8 : Int32) (a9 : Int32) (a10 : Int32) (a11 : Int32) : Nat → Int32 → Int32 → qH → Option (Int32 × qH)
  | 0, _, _, _ => none
  | q + 1, y12, y13, σ =>
    if a6 ≤ y13 then
      some (y12, σ)
    else
      b2 (FL_call tst a0 (3 : Int32) y13 (0 : Int32) (0 : Int32) σ) fun v52 s53 =>
      b2 ((
          if v52 = a9 then
            b2 (FL_call tst a0 (3 : Int32) y13 (7 : Int32) (0 : Int32) s53) fun v57 s58 =>
            if a10 < v57 then
              some ((0 : Int32), s58)
            else
              b2 (FL_call tst a0 (3 : Int32) y13 (8 : Int32) (0 : Int32) s58) fun v60 s61 =>
              if v60 < a10 then
                some ((0 : Int32), s61)
              else
                some ((1 : Int32), s61)
          else
            some ((0 : Int32), s53)
        ) : Option (Int32 × qH)) fun x54 s55 =>
      FL_surveys_L224 tst a0 a1 a3 a6 a8 a9 a10 a11 q (y12 + x54) (y13 + (1 : Int32)) s55
def FL_surveys (tst : Nat → Nat) (p0 : Nat) (p1 : Nat) (p2 : Int32) (σ : qH) : Option (Int32 × qH) :=
  b2 (FL_call tst p0 (2 : Int32) (6 : Int32) (0 : Int32) (0 : Int32) σ) fun v2 s3 =>
  b2 (FL_call tst p0 (2 : Int32) (7 : Int32) (0 : Int32) (0 : Int32) s3) fun v5 s6 =>
  b2 (FL_call tst p0 (2 : Int32) (5 : Int32) (0 : Int32) (0 : Int32) s6) fun v8 s9 =>
  b2 (FL_call tst p0 (2 : Int32) (0 : Int32) (0 : Int32) (0 : Int32) s9) fun v11 s12 =>
  b2 (FX6_evening p0 s12) fun v14 s15 =>
  b2 (FX6_evening p1 s15) fun v17 s18 =>
  b2 ((
      if v17 = v14 then
        if v14 < 0 then
          some ((0 : Int32), s18)
        else
          if v8 < v14 then
            some ((0 : Int32), s18)
          else
            b2 (FL_call tst p0 (2 : Int32) (6 : Int32) (0 : Int32) (0 : Int32) s18) fun v22 s23 =>
            if v22 = (v2 - v14) then
              b2 (FL_call tst p0 (2 : Int32) (7 : Int32) (0 : Int32) (0 : Int32) s23) fun v25 s26 =>
              if v25 = (v5 + v14) then
                b2 (FL_call tst p0 (2 : Int32) (0 : Int32) (0 : Int32) (0 : Int32) s26) fun v28 s29 =>
                if v28 = v11 then
                  b2 (FL_call tst p0 (13 : Int32) (0 : Int32) (0 : Int32) (0 : Int32) s29) fun v31 s32 =>
                  b1 (FL_thrown v31 s32) fun v34 =>
                  if v34 = 0 then
                    b2 (FL_call tst p1 (13 : Int32) (0 : Int32) (0 : Int32) (0 : Int32) s32) fun v36 s37 =>
                    b1 (FL_thrown v36 s37) fun v39 =>
                    if v39 = 0 then
                      b2 (FL_call tst p0 (2 : Int32) (6 : Int32) (0 : Int32) (0 : Int32) s37) fun v41 s42 =>
                      if v41 = v2 then
                        some ((1 : Int32), s42)
                      else
                        some ((0 : Int32), s42)
                    else
                      some ((0 : Int32), s37)
                  else
                    some ((0 : Int32), s32)
                else
                  some ((0 : Int32), s29)
              else
                some ((0 : Int32), s26)
            else
              some ((0 : Int32), s23)
      else
        some ((0 : Int32), s18)
    ) : Option (Int32 × qH)) fun x19 s20 =>
  b2 ((
      if (irm (p2 / (3 : Int32)) (3 : Int32)) ≤ 0 then
        some (((1 : Int32) + (irm (p2 / (18 : Int32)) (999 : Int32))), s20)
      else
        b2 (FL_call tst p0 (7 : Int32) (irm p2 (3 : Int32)) (irm (p2 / (9 : Int32)) (2 : Int32)) (0 : Int32) s20) fun v46 s47 =>
        some (v46, s47)
    ) : Option (Int32 × qH)) fun x43 s44 =>
  b2 (FL_call tst p0 (5 : Int32) (irm p2 (3 : Int32)) (0 : Int32) (0 : Int32) s44) fun v49 s50 =>
  b2 (FL_surveys_L224 tst p0 p1 v2 v11 x19 (irm p2 (3 : Int32)) x43 v49 20 (0 : Int32) (0 : Int32) s50) fun x63 s64 =>
  b2 (FL_call tst p0 (2 : Int32) (8 : Int32) (0 : Int32) (0 : Int32) s64) fun v66 s67 =>
  b2 (FL_call tst p0 (2 : Int32) (9 : Int32) (0 : Int32) (0 : Int32) s67) fun v69 s70 =>
  b2 (FL_call tst p0 (5 : Int32) (irm p2 (3 : Int32)) (1 : Int32) (0 : Int32) s70) fun v72 s73 =>
  b2 ((
      if x19 = 0 then
        some ((0 : Int32), s73)
      else
        b2 (FL_call tst p0 (11 : Int32) (irm p2 (3 : Int32)) x43 (0 : Int32) s73) fun v77 s78 =>
        if v77 = x63 then
          b2 (FL_call tst p1 (11 : Int32) (irm p2 (3 : Int32)) x43 (0 : Int32) s78) fun v80 s81 =>
          if v80 = x63 then
            b2 (FL_call tst p0 (2 : Int32) (8 : Int32) (0 : Int32) (0 : Int32) s81) fun v83 s84 =>
            if v83 = (v66 + x63) then
              b2 (FL_call tst p0 (2 : Int32) (9 : Int32) (0 : Int32) (0 : Int32) s84) fun v86 s87 =>
              if v86 = ((v69 + v49) - x63) then
                b2 (FL_call tst p0 (5 : Int32) (irm p2 (3 : Int32)) (0 : Int32) (0 : Int32) s87) fun v89 s90 =>
                if v89 = 0 then
                  b2 (FL_call tst p0 (5 : Int32) (irm p2 (3 : Int32)) (1 : Int32) (0 : Int32) s90) fun v92 s93 =>
                  if v92 = x43 then
                    b2 (FL_call tst p0 (2 : Int32) (0 : Int32) (0 : Int32) (0 : Int32) s93) fun v95 s96 =>
                    if v95 = (v11 - v49) then
                      b2 (FL_call tst p0 (7 : Int32) (irm p2 (3 : Int32)) (1 : Int32) (1 : Int32) s96) fun v98 s99 =>
                      if v98 = (999 : Int32) then
                        some ((1 : Int32), s99)
                      else
                        some ((0 : Int32), s99)
                    else
                      some ((0 : Int32), s96)
                  else
                    some ((0 : Int32), s93)
                else
                  some ((0 : Int32), s90)
              else
                some ((0 : Int32), s87)
            else
              some ((0 : Int32), s84)
          else
            some ((0 : Int32), s81)
        else
          some ((0 : Int32), s78)
    ) : Option (Int32 × qH)) fun x74 s75 =>
  b2 ((
      if x74 = 0 then
        some ((0 : Int32), s75)
      else
        b2 (FL_call tst p0 (13 : Int32) (0 : Int32) (0 : Int32) (0 : Int32) s75) fun v103 s104 =>
        b1 (FL_thrown v103 s104) fun v106 =>
        if v106 = 0 then
          b2 (FL_call tst p1 (13 : Int32) (0 : Int32) (0 : Int32) (0 : Int32) s104) fun v108 s109 =>
          b1 (FL_thrown v108 s109) fun v111 =>
          if v111 = 0 then
            b2 (FL_call tst p0 (5 : Int32) (irm p2 (3 : Int32)) (0 : Int32) (0 : Int32) s109) fun v113 s114 =>
            if v113 = v49 then
              b2 (FL_call tst p0 (5 : Int32) (irm p2 (3 : Int32)) (1 : Int32) (0 : Int32) s114) fun v116 s117 =>
              if v116 = v72 then
                b2 (FL_call tst p0 (2 : Int32) (6 : Int32) (0 : Int32) (0 : Int32) s117) fun v119 s120 =>
                if v119 = v2 then
                  some ((1 : Int32), s120)
                else
                  some ((0 : Int32), s120)
              else
                some ((0 : Int32), s117)
            else
              some ((0 : Int32), s114)
          else
            some ((0 : Int32), s109)
        else
          some ((0 : Int32), s104)
    ) : Option (Int32 × qH)) fun x100 s101 =>
  if x100 = 0 ∨ x100 = 1 then
    some (x100, s101)
  else none
/-- SteepleWordsLaw.drops -/
def FL_drops_L381 (tst : Nat → Nat) (a0 : Nat) (a1 : Nat) (a3 : Int32) (a5 : Int32) (a6 : Int32) (a12 : Int32) (a13 : Int32) (a14 : Int32) (a15 : Int32) (a16 : Int32) : Nat → Int32 → Int32 → qH → Option (Int32 × qH)
  | 0, _, _, _ => none
  | q + 1, y17, y18, σ =>
    if a3 ≤ y18 then
      some (y17, σ)
    else
      if a12 = 0 then
        some (y17, σ)
      else
        b2 ((
            if y17 = 0 then
              b2 (FL_call tst a0 (3 : Int32) y18 (0 : Int32) (0 : Int32) σ) fun v78 s79 =>
              if v78 = a5 then
                b2 (FL_call tst a0 (3 : Int32) y18 (1 : Int32) (0 : Int32) s79) fun v81 s82 =>
                if v81 = a6 then
                  b2 (FL_call tst a0 (3 : Int32) y18 (7 : Int32) (0 : Int32) s82) fun v84 s85 =>
                  if a16 < v84 then
                    some ((0 : Int32), s85)
                  else
                    b2 (FL_call tst a0 (3 : Int32) y18 (8 : Int32) (0 : Int32) s85) fun v87 s88 =>
                    if v87 < a16 then
                      some ((0 : Int32), s88)
                    else
                      some ((1 : Int32), s88)
                else
                  some ((0 : Int32), s82)
              else
                some ((0 : Int32), s79)
            else
              some ((1 : Int32), σ)
          ) : Option (Int32 × qH)) fun x75 s76 =>
        FL_drops_L381 tst a0 a1 a3 a5 a6 a12 a13 a14 a15 a16 q x75 (y18 + (1 : Int32)) s76
def FL_drops (tst : Nat → Nat) (p0 : Nat) (p1 : Nat) (p2 : Int32) (σ : qH) : Option (Int32 × qH) :=
  b2 (FL_call tst p0 (2 : Int32) (0 : Int32) (0 : Int32) (0 : Int32) σ) fun v2 s3 =>
  if v2 = 0 then
    some ((1 : Int32), s3)
  else
    if v2 = 0 then none else
    b2 (FL_call tst p0 (3 : Int32) (irm p2 v2) (0 : Int32) (0 : Int32) s3) fun v6 s7 =>
    b2 (FL_call tst p0 (3 : Int32) (irm p2 v2) (1 : Int32) (0 : Int32) s7) fun v9 s10 =>
    b2 (FL_call tst p0 (16 : Int32) (irm p2 v2) (0 : Int32) (0 : Int32) s10) fun v12 s13 =>
    b2 (FL_call tst p0 (16 : Int32) (irm p2 v2) (1 : Int32) (0 : Int32) s13) fun v15 s16 =>
    b2 (FL_call tst p0 (16 : Int32) (irm p2 v2) (2 : Int32) (0 : Int32) s16) fun v18 s19 =>
    b2 (FL_call tst p0 (3 : Int32) (irm p2 v2) (9 : Int32) (0 : Int32) s19) fun v21 s22 =>
    b2 (FL_call tst p0 (7 : Int32) v6 (2 : Int32) (1 : Int32) s22) fun v24 s25 =>
    b2 ((
        if v24 < v18 then
          some ((0 : Int32), s25)
        else
          if (v18 + v21) < v24 then
            some ((0 : Int32), s25)
          else
            b2 (FL_call tst p0 (9 : Int32) (irm p2 v2) (0 : Int32) (0 : Int32) s25) fun v29 s30 =>
            if v29 = (v2 - (1 : Int32)) then
              b2 (FL_call tst p1 (9 : Int32) (irm p2 v2) (0 : Int32) (0 : Int32) s30) fun v32 s33 =>
              if v32 = (v2 - (1 : Int32)) then
                b2 (FL_call tst p0 (7 : Int32) v6 (0 : Int32) (irm p2 (2 : Int32)) s33) fun v35 s36 =>
                if v35 = v12 then
                  b2 (FL_call tst p0 (7 : Int32) v6 (1 : Int32) (irm p2 (2 : Int32)) s36) fun v38 s39 =>
                  if v38 = v15 then
                    b2 (FL_call tst p0 (7 : Int32) v6 (2 : Int32) (irm p2 (2 : Int32)) s39) fun v41 s42 =>
                    if v41 = v18 then
                      b2 (FL_call tst p0 (13 : Int32) (0 : Int32) (0 : Int32) (0 : Int32) s42) fun v44 s45 =>
                      b1 (FL_thrown v44 s45) fun v47 =>
                      if v47 = 0 then
                        b2 (FL_call tst p1 (13 : Int32) (0 : Int32) (0 : Int32) (0 : Int32) s45) fun v49 s50 =>
                        b1 (FL_thrown v49 s50) fun v52 =>
                        if v52 = 0 then
                          b2 (FL_call tst p0 (3 : Int32) (irm p2 v2) (9 : Int32) (0 : Int32) s50) fun v54 s55 =>
                          if v54 = v21 then
                            some ((1 : Int32), s55)
                          else
                            some ((0 : Int32), s55)
                        else
                          some ((0 : Int32), s50)
                      else
                        some ((0 : Int32), s45)
                    else
                      some ((0 : Int32), s42)
                  else
                    some ((0 : Int32), s39)
                else
                  some ((0 : Int32), s36)
              else
                some ((0 : Int32), s33)
            else
              some ((0 : Int32), s30)
      ) : Option (Int32 × qH)) fun x26 s27 =>
    b2 (FL_call tst p0 (17 : Int32) v9 v6 (0 : Int32) s27) fun v57 s58 =>
    b2 (FL_call tst p0 (4 : Int32) v9 (0 : Int32) (0 : Int32) s58) fun v60 s61 =>
    b1 ((
        if v57 = (-1 : Int32) then
          some (irm (p2 / (16 : Int32)) (10 : Int32))
        else
          if (irm (p2 / (16 : Int32)) (2 : Int32)) = 0 then
            some v57
          else
            if (v57 + (1 : Int32)) = 0 then none else
            some (irm (p2 / (32 : Int32)) (v57 + (1 : Int32)))
      ) : Option (Int32)) fun x62 =>
    b2 ((
        if x26 = 0 then
          some ((0 : Int32), s61)
        else
          b2 (FL_call tst p0 (10 : Int32) v9 x62 (0 : Int32) s61) fun v67 s68 =>
          if v67 = v60 then
            b2 (FL_call tst p1 (10 : Int32) v9 x62 (0 : Int32) s68) fun v70 s71 =>
            if v70 = v60 then
              some ((1 : Int32), s71)
            else
              some ((0 : Int32), s71)
          else
            some ((0 : Int32), s68)
      ) : Option (Int32 × qH)) fun x64 s65 =>
    b2 (FL_call tst p0 (7 : Int32) v6 (0 : Int32) (1 : Int32) s65) fun v73 s74 =>
    b2 (FL_drops_L381 tst p0 p1 v2 v6 v9 x64 v57 v60 x62 v73 20 (0 : Int32) (0 : Int32) s74) fun x90 s91 =>
    b2 ((
        if x64 = 0 then
          some ((0 : Int32), s91)
        else
          b1 ((
              if v57 = (-1 : Int32) then
                some (0 : Int32)
              else
                if x62 = v57 then
                  some (1 : Int32)
                else
                  some (0 : Int32)
            ) : Option (Int32)) fun x94 =>
          if x90 = x94 then
            b2 (FL_call tst p0 (13 : Int32) (0 : Int32) (0 : Int32) (0 : Int32) s91) fun v96 s97 =>
            b1 (FL_thrown v96 s97) fun v99 =>
            if v99 = 0 then
              b2 (FL_call tst p1 (13 : Int32) (0 : Int32) (0 : Int32) (0 : Int32) s97) fun v101 s102 =>
              b1 (FL_thrown v101 s102) fun v104 =>
              if v104 = 0 then
                b2 (FL_call tst p0 (4 : Int32) v9 (0 : Int32) (0 : Int32) s102) fun v106 s107 =>
                if v106 = v60 then
                  some ((1 : Int32), s107)
                else
                  some ((0 : Int32), s107)
              else
                some ((0 : Int32), s102)
            else
              some ((0 : Int32), s97)
          else
            some ((0 : Int32), s91)
      ) : Option (Int32 × qH)) fun x92 s93 =>
    if x92 = 0 ∨ x92 = 1 then
      some (x92, s93)
    else none
/-- SteepleWordsLaw.law -/
def FL_law_L34 (tst : Nat → Nat) (a0 : Nat) (a1 : Nat) (a2 : Nat) (a3 : Int32) : Nat → Int32 → Int32 → qH → Option (Int32 × qH)
  | 0, _, _, _ => none
  | q + 1, y4, y5, σ =>
    if a3 ≤ y5 then
      some (y4, σ)
    else
      if y4 = 0 then
        some (y4, σ)
      else
        b1 (FL_cell a0 ((1 : Int32) + y5) σ) fun v12 =>
        b2 (FL_act tst a1 v12 σ) fun v14 s15 =>
        b2 (FL_refuses tst a2 (irm v12 (100000 : Int32)) s15) fun v17 s18 =>
        b2 ((
            if v17 = 0 then
              some ((0 : Int32), s18)
            else
              b2 (FL_act tst a2 v12 s18) fun v22 s23 =>
              if v22 = v14 then
                b2 (FL_refuses tst a2 (irm v12 (1000 : Int32)) s23) fun v25 s26 =>
                if v25 = 0 then
                  some ((0 : Int32), s26)
                else
                  b2 (FL_alike tst a1 a2 (irm v12 (5000 : Int32)) s26) fun v28 s29 =>
                  if v28 = 0 then
                    some ((0 : Int32), s29)
                  else
                    bc ((
                        if (irm y5 (2 : Int32)) = 0 then
                          b2 (FL_holds tst a1 (v12 / (3 : Int32)) s29) fun v39 s40 =>
                          if v39 = 0 then
                            some (.inr s40)
                          else
                            some (.inl s40)
                        else
                          b2 (FL_holds tst a2 (v12 / (3 : Int32)) s29) fun v42 s43 =>
                          if v42 = 0 then
                            some (.inr s43)
                          else
                            some (.inl s43)
                      ) : Option (qH ⊕ qH)) (fun s30 =>
                      b2 (FL_surveys tst a1 a2 (v12 / (7 : Int32)) s30) fun v33 s34 =>
                      if v33 = 0 then
                        some ((0 : Int32), s34)
                      else
                        b2 (FL_drops tst a1 a2 (v12 / (11 : Int32)) s34) fun v36 s37 =>
                        if v36 = 0 then
                          some ((0 : Int32), s37)
                        else
                          some ((1 : Int32), s37)
                      ) (fun s31 =>
                      some ((0 : Int32), s31)
                      )
              else
                some ((0 : Int32), s23)
          ) : Option (Int32 × qH)) fun x19 s20 =>
        FL_law_L34 tst a0 a1 a2 a3 q x19 (y5 + (1 : Int32)) s20
def FL_law (tst : Nat → Nat) (p0 : Nat) (σ : qH) (n0 : Nat) : Option (Int32 × qH) :=
  b1 (some (qU σ n0 (.inr (4, [.null, .null, .null, .null, .null, .null, .null])))) fun s1 =>
  b1 (FX6_init n0 s1 (n0 + 1)) fun s3 =>
  b1 (some (qU s3 (n0 + 136) (.inr (4, [.null, .null, .null, .null, .null, .null, .null])))) fun s5 =>
  b1 (FX6_init (n0 + 136) s5 (n0 + 137)) fun s7 =>
  b1 (FL_cell p0 (0 : Int32) s7) fun v10 =>
  b2 (FL_law_L34 tst p0 n0 (n0 + 136) ((14 : Int32) + (irm v10 (21 : Int32))) 36 (1 : Int32) (0 : Int32) s7) fun x52 s53 =>
  if x52 = 0 ∨ x52 = 1 then
    some (x52, s53)
  else none
