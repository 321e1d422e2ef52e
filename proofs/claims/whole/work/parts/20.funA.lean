def zfu : Nat := 4096
def f_J0_length_8abf5 (x0 : Int32) (σ : zS) : Option (Int32 × zS) := if x0.toNatClampNeg < 10 then some (nI (zlen.getD x0.toNatClampNeg 0), σ) else none
def f_J0_charAt_5068e (x0 x1 : Int32) (σ : zS) : Option (Int32 × zS) := if x0.toNatClampNeg < 10 ∧ 0 ≤ x1.toInt ∧ x1.toInt < zlen.getD x0.toNatClampNeg 0 then some ((zbyt.getD x0.toNatClampNeg []).getD x1.toNatClampNeg 0, σ) else none
theorem zq_J0_length_8abf5 {x0 : Int32} {σ : zS} (h : ¬ x0.toNatClampNeg < 10) : f_J0_length_8abf5 x0 σ = none := if_neg h
theorem zq_J0_charAt_5068e {x0 x1 : Int32} {σ : zS} (h : ¬ x0.toNatClampNeg < 10) : f_J0_charAt_5068e x0 x1 σ = none := if_neg (fun z => h z.1)
def f_X9_isWithin (x0 : Int32) (x1 : Int32) (x2 : Int32) (σ : zS) : Option (Int32 × zS) :=
  if x0 < x1 then
    some (0, σ)
  else
    if x2 < x0 then
      some (0, σ)
    else
      some (1, σ)
def f_X7_hasRoomFor (x1 : Int32) (σ : zS) : Option (Int32 × zS) :=
  if (200 - (σ 1 1)) < x1 then
    some (0, σ)
  else
    some (1, σ)
def f_X7_append_L3 (x1 : Int64) (x3 : Int32) : Nat → Int32 → zS → Option (Int32 × zS)
  | 0, _, _ => none
  | n + 1, x4, σ =>
  if x3 ≤ x4 then
    some (σ 1 1, σ)
  else
    if 200 ≤ (σ 1 1) then
      some (σ 1 1, σ)
    else
      zwr σ 2 200 (σ 1 1) ((Int64.toInt32 (x1 >>> (Int32.toInt64 (8 * x4) &&& 63))) &&& 255) fun σ1 =>
      zst σ1 1 1 ((σ1 1 1) + 1) fun σ2 =>
      f_X7_append_L3 x1 x3 n (x4 + 1) σ2
def f_X7_append (x1 : Int64) (x3 : Int32) (σ : zS) : Option (Int32 × zS) :=
  f_X7_append_L3 x1 x3 zfu 0 σ
def f_X9_write (x1 : Int64) (x3 : Int32) (σ : zS) : Option (Int32 × zS) :=
  zbd (f_X9_isWithin x3 1 8 σ) fun v1 σ1 =>
  if v1 = 0 then
    some ((-3), σ1)
  else
    zbd (f_X7_hasRoomFor x3 σ1) fun v2 σ2 =>
    if v2 = 0 then
      some ((-5), σ2)
    else
      zbd (f_X7_append x1 x3 σ2) fun v3 σ3 =>
      some (v3, σ3)
def f_X7_empty (σ : zS) : Option (Int32 × zS) :=
  zst σ 1 1 0 fun σ1 =>
  some (σ 1 1, σ1)
def f_X9_erase (σ : zS) : Option (Int32 × zS) :=
  zbd (f_X7_empty σ) fun v1 σ1 =>
  some (v1, σ1)
def f_X7_isLetter (x0 : Int32) (σ : zS) : Option (Int32 × zS) :=
  zbd (f_X9_isWithin x0 97 122 σ) fun v1 σ1 =>
  zrb v1 σ1
def f_X7_isDigit (x0 : Int32) (σ : zS) : Option (Int32 × zS) :=
  zbd (f_X9_isWithin x0 48 57 σ) fun v1 σ1 =>
  zrb v1 σ1
def f_X7_areOfOneToken_J14 (x0 : Int32) (x1 : Int32) (σ : zS) : Option (Int32 × zS) :=
  zbd (f_X7_isDigit x0 σ) fun v1 σ1 =>
  if v1 = 0 then
    some (0, σ1)
  else
    zbd (f_X7_isDigit x1 σ1) fun v2 σ2 =>
    if v2 = 0 then
      some (0, σ2)
    else
      some (1, σ2)
def f_X7_areOfOneToken (x0 : Int32) (x1 : Int32) (σ : zS) : Option (Int32 × zS) :=
  zbd (f_X7_isLetter x0 σ) fun v1 σ1 =>
  if v1 = 0 then
    f_X7_areOfOneToken_J14 x0 x1 σ1
  else
    zbd (f_X7_isLetter x1 σ1) fun v2 σ2 =>
    if v2 = 0 then
      f_X7_areOfOneToken_J14 x0 x1 σ2
    else
      some (1, σ2)
def f_X7_takeToken_L63 : Nat → zS → Option (Int32 × zS)
  | 0, _ => none
  | n + 1, σ =>
  if (σ 1 1) ≤ (σ 1 5) then
    some (0, σ)
  else
    zrd σ 2 200 (σ 1 4) fun v1 =>
    zrd σ 2 200 (σ 1 5) fun v2 =>
    zbd (f_X7_areOfOneToken v1 v2 σ) fun v3 σ3 =>
    if v3 = 0 then
      some (0, σ3)
    else
      zst σ3 1 5 ((σ3 1 5) + 1) fun σ4 =>
      f_X7_takeToken_L63 n σ4
def f_X7_takeToken_J46 (σ : zS) : Option (Int32 × zS) :=
  zst σ 1 5 (zmin ((σ 1 4) + 1) (σ 1 1)) fun σ1 =>
  f_X7_takeToken_L63 zfu σ1
def f_X7_takeToken_L8 : Nat → zS → Option (Int32 × zS)
  | 0, _ => none
  | n + 1, σ =>
  if (σ 1 1) ≤ (σ 1 4) then
    f_X7_takeToken_J46 σ
  else
    zrd σ 2 200 (σ 1 4) fun v1 =>
    if v1 = 32 then
      zst σ 1 4 ((σ 1 4) + 1) fun σ2 =>
      f_X7_takeToken_L8 n σ2
    else
      f_X7_takeToken_J46 σ
def f_X7_takeToken (σ : zS) : Option (Int32 × zS) :=
  zst σ 1 4 (σ 1 5) fun σ1 =>
  f_X7_takeToken_L8 zfu σ1
def f_X7_wordOf (x0 : Int32) (σ : zS) : Option (Int32 × zS) :=
  if x0 = 0 then
    some (0, σ)
  else
  if x0 = 1 then
    some (1, σ)
  else
  if x0 = 2 then
    some (2, σ)
  else
  if x0 = 3 then
    some (3, σ)
  else
  if x0 = 4 then
    some (4, σ)
  else
  some (5, σ)
def f_X7_tokenIs_L24 (x1 : Int32) : Nat → Int32 → Int32 → zS → Option (Int32 × zS)
  | 0, _, _, _ => none
  | n + 1, x2, x3, σ =>
  if x2 = 0 then
    zrb x2 σ
  else
    zbd (f_J0_length_8abf5 x1 σ) fun v1 σ1 =>
    if v1 ≤ x3 then
      zrb x2 σ1
    else
      zrd σ1 2 200 ((σ1 1 4) + x3) fun v2 =>
      zbd (f_J0_charAt_5068e x1 x3 σ1) fun v3 σ3 =>
      if v2 = v3 then
        f_X7_tokenIs_L24 x1 n 1 (x3 + 1) σ3
      else
        f_X7_tokenIs_L24 x1 n 0 (x3 + 1) σ3
def f_X7_tokenIs (x1 : Int32) (σ : zS) : Option (Int32 × zS) :=
  zbd (f_J0_length_8abf5 x1 σ) fun v1 σ1 =>
  if ((σ 1 5) - (σ 1 4)) = v1 then
    f_X7_tokenIs_L24 x1 zfu 1 0 σ1
  else
    f_X7_tokenIs_L24 x1 zfu 0 0 σ1
def f_X7_kindOfToken_L2 : Nat → Int32 → zS → Option (Int32 × zS)
  | 0, _, _ => none
  | n + 1, x1, σ =>
  if 6 ≤ x1 then
    some ((-1), σ)
  else
    zbd (f_X7_wordOf x1 σ) fun v1 σ1 =>
    zbd (f_X7_tokenIs v1 σ1) fun v2 σ2 =>
    if v2 = 0 then
      f_X7_kindOfToken_L2 n (x1 + 1) σ2
    else
      some (x1, σ2)
def f_X7_kindOfToken (σ : zS) : Option (Int32 × zS) :=
  f_X7_kindOfToken_L2 zfu 0 σ
def f_X7_formOf (x0 : Int32) (σ : zS) : Option (Int32 × zS) :=
  if x0 = 0 then
    some (6, σ)
  else
  if x0 = 1 then
    some (7, σ)
  else
  if x0 = 2 then
    some (8, σ)
  else
  if x0 = 3 then
    some (8, σ)
  else
  some (9, σ)
def f_X7_numberOfToken_L48 : Nat → Int32 → Int32 → zS → Option (Int32 × zS)
  | 0, _, _, _ => none
  | n + 1, x1, x2, σ =>
  if (σ 1 5) ≤ x2 then
    some (x1, σ)
  else
    zrd σ 2 200 x2 fun v1 =>
    f_X7_numberOfToken_L48 n (((10 * x1) + v1) - 48) (x2 + 1) σ
def f_X7_numberOfToken (σ : zS) : Option (Int32 × zS) :=
  if (σ 1 1) ≤ (σ 1 4) then
    some ((-1), σ)
  else
    zrd σ 2 200 (σ 1 4) fun v1 =>
    zbd (f_X7_isDigit v1 σ) fun v2 σ2 =>
    if v2 = 0 then
      some ((-1), σ2)
    else
      if ((σ2 1 5) - (σ2 1 4)) ≤ 4 then
        f_X7_numberOfToken_L48 zfu 0 (σ2 1 4) σ2
      else
        some ((-1), σ2)
def f_X9_isPlace (x0 : Int32) (σ : zS) : Option (Int32 × zS) :=
  zbd (f_X9_isWithin x0 0 9 σ) fun v1 σ1 =>
  zrb v1 σ1
def f_X7_canStand (x0 : Int32) (x1 : Int32) (x2 : Int32) (σ : zS) : Option (Int32 × zS) :=
  if x0 = 70 then
    if 9 ≤ x1 then
      some (0, σ)
    else
      some (1, σ)
  else
  if x0 = 80 then
    zbd (f_X9_isPlace x1 σ) fun v1 σ1 =>
    zrb v1 σ1
  else
  if x0 = 81 then
    zbd (f_X9_isPlace x1 σ) fun v1 σ1 =>
    if v1 = 0 then
      some (0, σ1)
    else
      if x1 = x2 then
        some (0, σ1)
      else
        some (1, σ1)
  else
  if x0 = 83 then
    if 99 < x1 then
      some (0, σ)
    else
      some (1, σ)
  else
  if x0 = 87 then
    zbd (f_X9_isWithin x1 1 999 σ) fun v1 σ1 =>
    zrb v1 σ1
  else
  if x0 = 89 then
    if 9999 < x1 then
      some (0, σ)
    else
      some (1, σ)
  else
  if x0 = 90 then
    zbd (f_X9_isWithin x1 x2 9999 σ) fun v1 σ1 =>
    zrb v1 σ1
  else
  if 999 < x1 then
    some (0, σ)
  else
    some (1, σ)
def f_X7_readLine_L34 (x1 : Int32) (x3 : Int32) : Nat → Int32 → Int32 → zS → Option (Int32 × zS)
  | 0, _, _, _ => none
  | n + 1, x4, x5, σ =>
  zbd (f_J0_length_8abf5 x3 σ) fun v1 σ1 =>
  if v1 ≤ x5 then
    some (1, σ1)
  else
    zbd (f_X7_takeToken σ1) fun _ σ2 =>
    zbd (f_X7_numberOfToken σ2) fun v3 σ3 =>
    if v3 = (-1) then
      some (0, σ3)
    else
      zbd (f_J0_charAt_5068e x3 x5 σ3) fun v4 σ4 =>
      zbd (f_X7_canStand v4 v3 x4 σ4) fun v5 σ5 =>
      if v5 = 0 then
        some (0, σ5)
      else
        zwr σ5 3 64 ((x1 + 1) + x5) v3 fun σ6 =>
        f_X7_readLine_L34 x1 x3 n v3 (x5 + 1) σ6
def f_X7_readLine (x1 : Int32) (σ : zS) : Option (Int32 × zS) :=
  zbd (f_X7_takeToken σ) fun _ σ1 =>
  zbd (f_X7_kindOfToken σ1) fun v2 σ2 =>
  if v2 = (-1) then
    some (0, σ2)
  else
    zwr σ2 3 64 x1 v2 fun σ3 =>
    zbd (f_X7_formOf v2 σ3) fun v4 σ4 =>
    f_X7_readLine_L34 x1 v4 zfu 0 0 σ4
def f_X7_read_L12 : Nat → Int32 → zS → Option (Int32 × zS)
  | 0, _, _ => none
  | n + 1, x1, σ =>
  if 8 ≤ x1 then
    some (σ 1 4, σ)
  else
    zbd (f_X7_readLine (x1 * 8) σ) fun v1 σ1 =>
    if v1 = 0 then
      some (σ1 1 4, σ1)
    else
      zst σ1 1 3 ((σ1 1 3) + 1) fun σ2 =>
      zbd (f_X7_takeToken σ2) fun _ σ3 =>
      if (σ3 1 4) < (σ3 1 1) then
        zrd σ3 2 200 (σ3 1 4) fun v4 =>
        if v4 = 59 then
          f_X7_read_L12 n (x1 + 1) σ3
        else
          some (σ3 1 4, σ3)
      else
        some ((-1), σ3)
def f_X7_read (σ : zS) : Option (Int32 × zS) :=
  zst σ 1 5 0 fun σ1 =>
  zst σ1 1 3 0 fun σ2 =>
  f_X7_read_L12 zfu 0 σ2
def f_X9_fault (σ : zS) : Option (Int32 × zS) :=
  zbd (f_X7_read σ) fun v1 σ1 =>
  some (v1, σ1)
def f_X3_tellFlow_L30 (x1 : Int32) (x3 : Int32) : Nat → Int32 → zS → Option (Int32 × zS)
  | 0, _, _ => none
  | n + 1, x4, σ =>
  if 3 ≤ x4 then
    zrd σ 3 64 ((x3 + 2) + 3) fun v1 =>
    zwr σ 12 9 x1 v1 fun σ2 =>
    some (0, σ2)
  else
    zrd σ 3 64 ((x3 + 2) + x4) fun v1 =>
    zwr σ 11 27 ((x1 * 3) + x4) v1 fun σ2 =>
    f_X3_tellFlow_L30 x1 x3 n (x4 + 1) σ2
def f_X3_tellFlow (x1 : Int32) (x3 : Int32) (σ : zS) : Option (Int32 × zS) :=
  zwr σ 8 9 x1 1 fun σ1 =>
  zrd σ1 3 64 x3 fun v2 =>
  zwr σ1 9 9 x1 v2 fun σ3 =>
  zrd σ3 3 64 (x3 + 1) fun v4 =>
  zwr σ3 10 9 x1 v4 fun σ5 =>
  f_X3_tellFlow_L30 x1 x3 zfu 0 σ5
def f_X3_tellWay_13_15_J30 (x2 : Int32) (x3 : Int32) (s0 : Int32) (σ : zS) : Option (Int32 × zS) :=
  zrd σ 15 10 x2 fun v1 =>
  zwr σ 15 10 x2 ((v1 &&& (((1 : Int32) <<< (x3 &&& 31)) ^^^ (-1))) ||| (s0 <<< (x3 &&& 31))) fun σ2 =>
  zrd σ2 15 10 x3 fun v3 =>
  zwr σ2 15 10 x3 ((v3 &&& (((1 : Int32) <<< (x2 &&& 31)) ^^^ (-1))) ||| (s0 <<< (x2 &&& 31))) fun σ4 =>
  some (0, σ4)
def f_X3_tellWay_13_15 (x2 : Int32) (x3 : Int32) (x4 : Int32) (σ : zS) : Option (Int32 × zS) :=
  zwr σ 13 100 ((x2 * 10) + x3) x4 fun σ1 =>
  zwr σ1 13 100 ((x3 * 10) + x2) x4 fun σ2 =>
  if x4 ≤ 0 then
    f_X3_tellWay_13_15_J30 x2 x3 0 σ2
  else
    f_X3_tellWay_13_15_J30 x2 x3 1 σ2
def f_X3_tellWay_14_16_J30 (x2 : Int32) (x3 : Int32) (s0 : Int32) (σ : zS) : Option (Int32 × zS) :=
  zrd σ 16 10 x2 fun v1 =>
  zwr σ 16 10 x2 ((v1 &&& (((1 : Int32) <<< (x3 &&& 31)) ^^^ (-1))) ||| (s0 <<< (x3 &&& 31))) fun σ2 =>
  zrd σ2 16 10 x3 fun v3 =>
  zwr σ2 16 10 x3 ((v3 &&& (((1 : Int32) <<< (x2 &&& 31)) ^^^ (-1))) ||| (s0 <<< (x2 &&& 31))) fun σ4 =>
  some (0, σ4)
def f_X3_tellWay_14_16 (x2 : Int32) (x3 : Int32) (x4 : Int32) (σ : zS) : Option (Int32 × zS) :=
  zwr σ 14 100 ((x2 * 10) + x3) x4 fun σ1 =>
  zwr σ1 14 100 ((x3 * 10) + x2) x4 fun σ2 =>
  if x4 ≤ 0 then
    f_X3_tellWay_14_16_J30 x2 x3 0 σ2
  else
    f_X3_tellWay_14_16_J30 x2 x3 1 σ2
def f_X3_tell (x2 : Int32) (σ : zS) : Option (Int32 × zS) :=
  zrd σ 3 64 (x2 + 1) fun v1 =>
  zrd σ 3 64 x2 fun v2 =>
  if v2 = 0 then
    zrd σ 3 64 (x2 + 2) fun v3 =>
    zwr σ 5 10 v1 v3 fun σ4 =>
    zrd σ4 3 64 (x2 + 3) fun v5 =>
    zwr σ4 6 10 v1 v5 fun σ6 =>
    zrd σ6 3 64 (x2 + 4) fun v7 =>
    zwr σ6 7 10 v1 v7 fun σ8 =>
    some (0, σ8)
  else
  if v2 = 1 then
    zbd (f_X3_tellFlow v1 (x2 + 2) σ) fun _ σ3 =>
    some (0, σ3)
  else
  if v2 = 2 then
    zrd σ 3 64 (x2 + 2) fun v3 =>
    zrd σ 3 64 (x2 + 3) fun v4 =>
    zbd (f_X3_tellWay_13_15 v1 v3 v4 σ) fun _ σ5 =>
    some (0, σ5)
  else
  if v2 = 3 then
    zrd σ 3 64 (x2 + 2) fun v3 =>
    zrd σ 3 64 (x2 + 3) fun v4 =>
    zbd (f_X3_tellWay_14_16 v1 v3 v4 σ) fun _ σ5 =>
    some (0, σ5)
  else
  if v2 = 4 then
    zst σ 4 12 v1 fun σ3 =>
    some (0, σ3)
  else
  zst σ 4 13 v1 fun σ3 =>
  some (0, σ3)
def f_X9_land_L24 (x1 : Int32) : Nat → Int32 → zS → Option (Int32 × zS)
  | 0, _, _ => none
  | n + 1, x2, σ =>
  if x1 ≤ x2 then
    zbd (f_X7_empty σ) fun v1 σ1 =>
    some (x1, σ1)
  else
    zbd (f_X3_tell (x2 * 8) σ) fun _ σ1 =>
    f_X9_land_L24 x1 n (x2 + 1) σ1
def f_X9_land (σ : zS) : Option (Int32 × zS) :=
  zbd (f_X7_read σ) fun v1 σ1 =>
  if v1 = (-1) then
    f_X9_land_L24 (σ1 1 3) zfu 0 σ1
  else
    some ((-4), σ1)
def f_X9_place (x1 : Int32) (x2 : Int32) (σ : zS) : Option (Int32 × zS) :=
  zbd (f_X9_isPlace x1 σ) fun v1 σ1 =>
  if v1 = 0 then
    some ((-2), σ1)
  else
    if x2 = 0 then
      zrd σ1 5 10 x1 fun v2 =>
      some (v2, σ1)
    else
    if x2 = 1 then
      zrd σ1 6 10 x1 fun v2 =>
      some (v2, σ1)
    else
    if x2 = 2 then
      zrd σ1 7 10 x1 fun v2 =>
      some (v2, σ1)
    else
    some ((-3), σ1)
def f_X3_isTold (x1 : Int32) (σ : zS) : Option (Int32 × zS) :=
  zbd (f_X9_isWithin x1 0 8 σ) fun v1 σ1 =>
  if v1 = 0 then
    some (0, σ1)
  else
    zrd σ1 8 9 x1 fun v2 =>
    if v2 = 0 then
      some (0, σ1)
    else
      some (1, σ1)
def f_X9_flow (x1 : Int32) (x2 : Int32) (σ : zS) : Option (Int32 × zS) :=
  zbd (f_X3_isTold x1 σ) fun v1 σ1 =>
  if v1 = 0 then
    some ((-2), σ1)
  else
    if x2 = 0 then
      zrd σ1 9 9 x1 fun v2 =>
      some (v2, σ1)
    else
    if x2 = 1 then
      zrd σ1 10 9 x1 fun v2 =>
      some (v2, σ1)
    else
    if x2 = 2 then
      zrd σ1 11 27 (((x1 * 3) + x2) - 2) fun v2 =>
      some (v2, σ1)
    else
    if x2 = 3 then
      zrd σ1 11 27 (((x1 * 3) + x2) - 2) fun v2 =>
      some (v2, σ1)
    else
    if x2 = 4 then
      zrd σ1 11 27 (((x1 * 3) + x2) - 2) fun v2 =>
      some (v2, σ1)
    else
    if x2 = 5 then
      zrd σ1 12 9 x1 fun v2 =>
      some (v2, σ1)
    else
    some ((-3), σ1)
def f_X9_way (x1 : Int32) (x2 : Int32) (x3 : Int32) (σ : zS) : Option (Int32 × zS) :=
  zbd (f_X9_isPlace x1 σ) fun v1 σ1 =>
  if v1 = 0 then
    some ((-2), σ1)
  else
    zbd (f_X9_isPlace x2 σ1) fun v2 σ2 =>
    if v2 = 0 then
      some ((-2), σ2)
    else
      if x1 = x2 then
        some ((-2), σ2)
      else
        if x3 = 0 then
          zrd σ2 13 100 ((x1 * 10) + x2) fun v3 =>
          some (v3, σ2)
        else
        if x3 = 1 then
          zrd σ2 14 100 ((x1 * 10) + x2) fun v3 =>
          some (v3, σ2)
        else
        some ((-3), σ2)
def f_X9_numberAt (x0 : Int32) (x1 : Int32) (σ : zS) : Option (Int32 × zS) :=
  some ((x0 >>> ((10 * x1) &&& 31)) &&& 1023, σ)
def f_X9_areMeasured_L10 (x0 : Int32) : Nat → Int32 → Int32 → zS → Option (Int32 × zS)
  | 0, _, _, _ => none
  | n + 1, x2, x3, σ =>
  if 3 ≤ x3 then
    zrb x2 σ
  else
    if x2 = 0 then
      f_X9_areMeasured_L10 x0 n 0 (x3 + 1) σ
    else
      zbd (f_X9_numberAt x0 x3 σ) fun v1 σ1 =>
      if 999 < v1 then
        f_X9_areMeasured_L10 x0 n 0 (x3 + 1) σ1
      else
        f_X9_areMeasured_L10 x0 n 1 (x3 + 1) σ1
def f_X9_areMeasured (x0 : Int32) (x1 : Int32) (σ : zS) : Option (Int32 × zS) :=
  zbd (f_X9_isWithin x1 1 99 σ) fun v1 σ1 =>
  f_X9_areMeasured_L10 x0 zfu v1 0 σ1
def f_X0_add (x1 : Int32) (x2 : Int32) (x3 : Int32) (σ : zS) : Option (Int32 × zS) :=
  zwr σ 18 12 (σ 17 0) x1 fun σ1 =>
  zwr σ1 21 12 (σ 17 0) x2 fun σ2 =>
  zwr σ2 22 12 (σ 17 0) x3 fun σ3 =>
  zwr σ3 25 12 (σ 17 0) (-1) fun σ4 =>
  zwr σ4 26 12 (σ 17 0) (-1) fun σ5 =>
  zst σ5 17 0 ((σ5 17 0) + 1) fun σ6 =>
  some (σ 17 0, σ6)
def f_X0_setMeasured_L3 (x1 : Int32) (x2 : Int32) (x3 : Int32) : Nat → Int32 → zS → Option (Int32 × zS)
  | 0, _, _ => none
  | n + 1, x4, σ =>
  if 3 ≤ x4 then
    zwr σ 20 12 x1 x3 fun σ1 =>
    some (0, σ1)
  else
    zbd (f_X9_numberAt x2 x4 σ) fun v1 σ1 =>
    zwr σ1 19 36 ((x1 * 3) + x4) v1 fun σ2 =>
    f_X0_setMeasured_L3 x1 x2 x3 n (x4 + 1) σ2
def f_X0_setMeasured (x1 : Int32) (x2 : Int32) (x3 : Int32) (σ : zS) : Option (Int32 × zS) :=
  f_X0_setMeasured_L3 x1 x2 x3 zfu 0 σ
def f_X9_blade (x1 : Int32) (x2 : Int32) (x3 : Int32) (x4 : Int32) (x5 : Int32) (σ : zS) : Option (Int32 × zS) :=
  zbd (f_X9_isPlace x1 σ) fun v1 σ1 =>
  if v1 = 0 then
    some ((-2), σ1)
  else
    zbd (f_X9_areMeasured x2 x3 σ1) fun v2 σ2 =>
    if v2 = 0 then
      some ((-3), σ2)
    else
      zbd (f_X9_isWithin x4 1 999 σ2) fun v3 σ3 =>
      if v3 = 0 then
        some ((-3), σ3)
      else
        zbd (f_X9_isWithin x5 0 99 σ3) fun v4 σ4 =>
        if v4 = 0 then
          some ((-3), σ4)
        else
          if (σ4 17 0) < 12 then
            zbd (f_X0_add x1 x4 x5 σ4) fun v5 σ5 =>
            zbd (f_X0_setMeasured v5 x2 x3 σ5) fun _ σ6 =>
            some (v5, σ6)
          else
            some ((-5), σ4)
def f_X0_has (x1 : Int32) (σ : zS) : Option (Int32 × zS) :=
  zbd (f_X9_isWithin x1 0 ((σ 17 0) - 1) σ) fun v1 σ1 =>
  zrb v1 σ1
def f_X9_rim_J34 (x1 : Int32) (x2 : Int32) (x3 : Int32) (s0 : Int32) (σ : zS) : Option (Int32 × zS) :=
  zbd (f_X9_isWithin x2 0 999 σ) fun v1 σ1 =>
  if v1 = 0 then
    some ((-3), σ1)
  else
    if s0 = 0 then
      some ((-3), σ1)
    else
      zwr σ1 23 12 x1 x2 fun σ2 =>
      zwr σ2 24 12 x1 x3 fun σ3 =>
      some (1, σ3)
def f_X9_rim (x1 : Int32) (x2 : Int32) (x3 : Int32) (σ : zS) : Option (Int32 × zS) :=
  zbd (f_X0_has x1 σ) fun v1 σ1 =>
  if v1 = 0 then
    some ((-2), σ1)
  else
    if x3 = 0 then
      f_X9_rim_J34 x1 x2 x3 1 σ1
    else
      zbd (f_X9_isWithin x3 1 (x2 - 1) σ1) fun v2 σ2 =>
      if v2 = 0 then
        f_X9_rim_J34 x1 x2 x3 0 σ2
      else
        f_X9_rim_J34 x1 x2 x3 1 σ2
def f_X9_measure (x1 : Int32) (x2 : Int32) (x3 : Int32) (σ : zS) : Option (Int32 × zS) :=
  zbd (f_X0_has x1 σ) fun v1 σ1 =>
  if v1 = 0 then
    some ((-2), σ1)
  else
    zbd (f_X9_areMeasured x2 x3 σ1) fun v2 σ2 =>
    if v2 = 0 then
      some ((-3), σ2)
    else
      zrd σ2 20 12 x1 fun v3 =>
      zbd (f_X0_setMeasured x1 x2 x3 σ2) fun _ σ4 =>
      some (v3, σ4)
def f_X9_of (x1 : Int32) (x2 : Int32) (σ : zS) : Option (Int32 × zS) :=
  zbd (f_X0_has x1 σ) fun v1 σ1 =>
  if v1 = 0 then
    some ((-2), σ1)
  else
    if x2 = 0 then
      zrd σ1 18 12 x1 fun v2 =>
      some (v2, σ1)
    else
    if x2 = 1 then
      zrd σ1 19 36 (((x1 * 3) + x2) - 1) fun v2 =>
      some (v2, σ1)
    else
    if x2 = 2 then
      zrd σ1 19 36 (((x1 * 3) + x2) - 1) fun v2 =>
      some (v2, σ1)
    else
    if x2 = 3 then
      zrd σ1 19 36 (((x1 * 3) + x2) - 1) fun v2 =>
      some (v2, σ1)
    else
    if x2 = 4 then
      zrd σ1 20 12 x1 fun v2 =>
      some (v2, σ1)
    else
    if x2 = 5 then
      zrd σ1 21 12 x1 fun v2 =>
      some (v2, σ1)
    else
    if x2 = 6 then
      zrd σ1 22 12 x1 fun v2 =>
      some (v2, σ1)
    else
    if x2 = 7 then
      zrd σ1 23 12 x1 fun v2 =>
      some (v2, σ1)
    else
    if x2 = 8 then
      zrd σ1 24 12 x1 fun v2 =>
      some (v2, σ1)
    else
    if x2 = 9 then
      zrd σ1 25 12 x1 fun v2 =>
      some (v2, σ1)
    else
    some ((-3), σ1)
def f_X9_cut (x0 : Int32) (x1 : Int32) (σ : zS) : Option (Int32 × zS) :=
  if x1 ≤ 0 then
    some (0, σ)
  else
    zdv x0 x1 fun v1 =>
    some (v1, σ)
def f_X2_offBetween_L5 (x1 : Int32) (x2 : Int32) : Nat → Int32 → Int32 → zS → Option (Int32 × zS)
  | 0, _, _, _ => none
  | n + 1, x3, x4, σ =>
  if 3 ≤ x4 then
    zrd σ 20 12 x1 fun v1 =>
    zrd σ 12 9 x2 fun v2 =>
    zbd (f_X9_cut (10 * x3) (v1 + v2) σ) fun v3 σ3 =>
    some (v3, σ3)
  else
    zrd σ 19 36 ((x1 * 3) + x4) fun v1 =>
    zrd σ 11 27 ((x2 * 3) + x4) fun v2 =>
    f_X2_offBetween_L5 x1 x2 n (zmax x3 (zabs (v1 - v2))) (x4 + 1) σ
def f_X2_offBetween (x1 : Int32) (x2 : Int32) (σ : zS) : Option (Int32 × zS) :=
  f_X2_offBetween_L5 x1 x2 zfu 0 0 σ
def f_X9_off (x1 : Int32) (x2 : Int32) (σ : zS) : Option (Int32 × zS) :=
  zbd (f_X0_has x1 σ) fun v1 σ1 =>
  if v1 = 0 then
    some ((-2), σ1)
  else
    zbd (f_X3_isTold x2 σ1) fun v2 σ2 =>
    if v2 = 0 then
      some ((-2), σ2)
    else
      zbd (f_X2_offBetween x1 x2 σ2) fun v3 σ3 =>
      some (v3, σ3)
def f_X2_canBeOf_L4 (x1 : Int32) : Nat → Int32 → Int32 → zS → Option (Int32 × zS)
  | 0, _, _, _ => none
  | n + 1, x2, x3, σ =>
  if 9 ≤ x3 then
    some (x2, σ)
  else
    zrd σ 8 9 x3 fun v1 =>
    if v1 = 0 then
      f_X2_canBeOf_L4 x1 n x2 (x3 + 1) σ
    else
      zbd (f_X2_offBetween x1 x3 σ) fun v2 σ2 =>
      if (σ2 4 12) < v2 then
        f_X2_canBeOf_L4 x1 n x2 (x3 + 1) σ2
      else
        f_X2_canBeOf_L4 x1 n (x2 ||| ((1 : Int32) <<< (x3 &&& 31))) (x3 + 1) σ2
def f_X2_canBeOf (x1 : Int32) (σ : zS) : Option (Int32 × zS) :=
  f_X2_canBeOf_L4 x1 zfu 0 0 σ
def f_X9_can (x1 : Int32) (σ : zS) : Option (Int32 × zS) :=
  zbd (f_X0_has x1 σ) fun v1 σ1 =>
  if v1 = 0 then
    some ((-2), σ1)
  else
    zbd (f_X2_canBeOf x1 σ1) fun v2 σ2 =>
    some (v2, σ2)
def f_J6_bitCount_0f7a4 (x0 : Int32) (σ : zS) : Option (Int32 × zS) :=
  some ((((((((x0 - ((((Int32.toUInt32 x0) >>> (Int32.toUInt32 (1 : Int32) &&& Int32.toUInt32 31)).toInt32) &&& 1431655765)) &&& 858993459) + ((((Int32.toUInt32 (x0 - ((((Int32.toUInt32 x0) >>> (Int32.toUInt32 (1 : Int32) &&& Int32.toUInt32 31)).toInt32) &&& 1431655765))) >>> (Int32.toUInt32 (2 : Int32) &&& Int32.toUInt32 31)).toInt32) &&& 858993459)) + (((Int32.toUInt32 (((x0 - ((((Int32.toUInt32 x0) >>> (Int32.toUInt32 (1 : Int32) &&& Int32.toUInt32 31)).toInt32) &&& 1431655765)) &&& 858993459) + ((((Int32.toUInt32 (x0 - ((((Int32.toUInt32 x0) >>> (Int32.toUInt32 (1 : Int32) &&& Int32.toUInt32 31)).toInt32) &&& 1431655765))) >>> (Int32.toUInt32 (2 : Int32) &&& Int32.toUInt32 31)).toInt32) &&& 858993459))) >>> (Int32.toUInt32 (4 : Int32) &&& Int32.toUInt32 31)).toInt32)) &&& 252645135) + (((Int32.toUInt32 (((((x0 - ((((Int32.toUInt32 x0) >>> (Int32.toUInt32 (1 : Int32) &&& Int32.toUInt32 31)).toInt32) &&& 1431655765)) &&& 858993459) + ((((Int32.toUInt32 (x0 - ((((Int32.toUInt32 x0) >>> (Int32.toUInt32 (1 : Int32) &&& Int32.toUInt32 31)).toInt32) &&& 1431655765))) >>> (Int32.toUInt32 (2 : Int32) &&& Int32.toUInt32 31)).toInt32) &&& 858993459)) + (((Int32.toUInt32 (((x0 - ((((Int32.toUInt32 x0) >>> (Int32.toUInt32 (1 : Int32) &&& Int32.toUInt32 31)).toInt32) &&& 1431655765)) &&& 858993459) + ((((Int32.toUInt32 (x0 - ((((Int32.toUInt32 x0) >>> (Int32.toUInt32 (1 : Int32) &&& Int32.toUInt32 31)).toInt32) &&& 1431655765))) >>> (Int32.toUInt32 (2 : Int32) &&& Int32.toUInt32 31)).toInt32) &&& 858993459))) >>> (Int32.toUInt32 (4 : Int32) &&& Int32.toUInt32 31)).toInt32)) &&& 252645135)) >>> (Int32.toUInt32 (8 : Int32) &&& Int32.toUInt32 31)).toInt32)) + (((Int32.toUInt32 ((((((x0 - ((((Int32.toUInt32 x0) >>> (Int32.toUInt32 (1 : Int32) &&& Int32.toUInt32 31)).toInt32) &&& 1431655765)) &&& 858993459) + ((((Int32.toUInt32 (x0 - ((((Int32.toUInt32 x0) >>> (Int32.toUInt32 (1 : Int32) &&& Int32.toUInt32 31)).toInt32) &&& 1431655765))) >>> (Int32.toUInt32 (2 : Int32) &&& Int32.toUInt32 31)).toInt32) &&& 858993459)) + (((Int32.toUInt32 (((x0 - ((((Int32.toUInt32 x0) >>> (Int32.toUInt32 (1 : Int32) &&& Int32.toUInt32 31)).toInt32) &&& 1431655765)) &&& 858993459) + ((((Int32.toUInt32 (x0 - ((((Int32.toUInt32 x0) >>> (Int32.toUInt32 (1 : Int32) &&& Int32.toUInt32 31)).toInt32) &&& 1431655765))) >>> (Int32.toUInt32 (2 : Int32) &&& Int32.toUInt32 31)).toInt32) &&& 858993459))) >>> (Int32.toUInt32 (4 : Int32) &&& Int32.toUInt32 31)).toInt32)) &&& 252645135) + (((Int32.toUInt32 (((((x0 - ((((Int32.toUInt32 x0) >>> (Int32.toUInt32 (1 : Int32) &&& Int32.toUInt32 31)).toInt32) &&& 1431655765)) &&& 858993459) + ((((Int32.toUInt32 (x0 - ((((Int32.toUInt32 x0) >>> (Int32.toUInt32 (1 : Int32) &&& Int32.toUInt32 31)).toInt32) &&& 1431655765))) >>> (Int32.toUInt32 (2 : Int32) &&& Int32.toUInt32 31)).toInt32) &&& 858993459)) + (((Int32.toUInt32 (((x0 - ((((Int32.toUInt32 x0) >>> (Int32.toUInt32 (1 : Int32) &&& Int32.toUInt32 31)).toInt32) &&& 1431655765)) &&& 858993459) + ((((Int32.toUInt32 (x0 - ((((Int32.toUInt32 x0) >>> (Int32.toUInt32 (1 : Int32) &&& Int32.toUInt32 31)).toInt32) &&& 1431655765))) >>> (Int32.toUInt32 (2 : Int32) &&& Int32.toUInt32 31)).toInt32) &&& 858993459))) >>> (Int32.toUInt32 (4 : Int32) &&& Int32.toUInt32 31)).toInt32)) &&& 252645135)) >>> (Int32.toUInt32 (8 : Int32) &&& Int32.toUInt32 31)).toInt32))) >>> (Int32.toUInt32 (16 : Int32) &&& Int32.toUInt32 31)).toInt32)) &&& 63, σ)
def f_X9_hasBit (x0 : Int32) (x1 : Int32) (σ : zS) : Option (Int32 × zS) :=
  if ((x0 >>> (x1 &&& 31)) &&& 1) = 0 then
    some (0, σ)
  else
    some (1, σ)
def f_X2_nameOf_L21 (x1 : Int32) (x2 : Int32) : Nat → Int32 → Int32 → zS → Option (Int32 × zS)
  | 0, _, _, _ => none
  | n + 1, x3, x4, σ =>
  if 9 ≤ x4 then
    some (x3, σ)
  else
    zbd (f_X9_hasBit x2 x4 σ) fun v1 σ1 =>
    if v1 = 0 then
      zrd σ1 8 9 x4 fun v2 =>
      if v2 = 0 then
        f_X2_nameOf_L21 x1 x2 n x3 (x4 + 1) σ1
      else
        zbd (f_X2_offBetween x1 x4 σ1) fun v3 σ3 =>
        if (σ3 4 13) ≤ v3 then
          f_X2_nameOf_L21 x1 x2 n x3 (x4 + 1) σ3
        else
          some ((-1), σ3)
    else
      f_X2_nameOf_L21 x1 x2 n x4 (x4 + 1) σ1
def f_X2_nameOf (x1 : Int32) (σ : zS) : Option (Int32 × zS) :=
  zbd (f_X2_canBeOf x1 σ) fun v1 σ1 =>
  zbd (f_J6_bitCount_0f7a4 v1 σ1) fun v2 σ2 =>
  if v2 = 1 then
    f_X2_nameOf_L21 x1 v1 zfu (-1) 0 σ2
  else
    some ((-1), σ2)
def f_X9_named (x1 : Int32) (σ : zS) : Option (Int32 × zS) :=
  zbd (f_X0_has x1 σ) fun v1 σ1 =>
  if v1 = 0 then
    some ((-2), σ1)
  else
    zbd (f_X2_nameOf x1 σ1) fun v2 σ2 =>
    some (v2, σ2)
def f_X0_comesFrom_J40 (x2 : Int32) (x3 : Int32) (σ : zS) : Option (Int32 × zS) :=
  if x3 = x2 then
    some (1, σ)
  else
    some (0, σ)
def f_X0_comesFrom_L10 (x2 : Int32) : Nat → Int32 → Int32 → zS → Option (Int32 × zS)
  | 0, _, _, _ => none
  | n + 1, x3, x4, σ =>
  if x3 = (-1) then
    f_X0_comesFrom_J40 x2 x3 σ
  else
    if x3 = x2 then
      f_X0_comesFrom_J40 x2 x3 σ
    else
      if 12 ≤ x4 then
        f_X0_comesFrom_J40 x2 x3 σ
      else
        zrd σ 25 12 x3 fun v1 =>
        f_X0_comesFrom_L10 x2 n v1 (x4 + 1) σ
def f_X0_comesFrom (x1 : Int32) (x2 : Int32) (σ : zS) : Option (Int32 × zS) :=
  zrd σ 25 12 x1 fun v1 =>
  f_X0_comesFrom_L10 x2 zfu v1 0 σ
def f_X9_strike (x1 : Int32) (x2 : Int32) (σ : zS) : Option (Int32 × zS) :=
  zbd (f_X0_has x1 σ) fun v1 σ1 =>
  if v1 = 0 then
    some ((-2), σ1)
  else
    zbd (f_X0_has x2 σ1) fun v2 σ2 =>
    if v2 = 0 then
      some ((-2), σ2)
    else
      if x1 = x2 then
        some ((-2), σ2)
      else
        zrd σ2 25 12 x1 fun v3 =>
        if v3 = (-1) then
          zbd (f_X0_comesFrom x2 x1 σ2) fun v4 σ4 =>
          if v4 = 0 then
            zwr σ4 25 12 x1 x2 fun σ5 =>
            some (1, σ5)
          else
            some ((-4), σ4)
        else
          some ((-4), σ2)
def f_X9_undo (x1 : Int32) (σ : zS) : Option (Int32 × zS) :=
  zbd (f_X0_has x1 σ) fun v1 σ1 =>
  if v1 = 0 then
    some ((-2), σ1)
  else
    zrd σ1 25 12 x1 fun v2 =>
    zwr σ1 25 12 x1 (-1) fun σ3 =>
    some (v2, σ3)
def f_X9_lesser (x0 : Int32) (x1 : Int32) (σ : zS) : Option (Int32 × zS) :=
  if x0 = (-1) then
    some (x1, σ)
  else
    some (zmin x0 x1, σ)
def f_X2_firstOpen_L4 (x1 : Int32) : Nat → Int32 → Int32 → zS → Option (Int32 × zS)
  | 0, _, _, _ => none
  | n + 1, x2, x3, σ =>
  if 9 ≤ x3 then
    if x2 = (-1) then
      some (0, σ)
    else
      some (x2, σ)
  else
    zbd (f_X9_hasBit x1 x3 σ) fun v1 σ1 =>
    if v1 = 0 then
      f_X2_firstOpen_L4 x1 n x2 (x3 + 1) σ1
    else
      zrd σ1 10 9 x3 fun v2 =>
      zbd (f_X9_lesser x2 v2 σ1) fun v3 σ3 =>
      f_X2_firstOpen_L4 x1 n v3 (x3 + 1) σ3
def f_X2_firstOpen (x1 : Int32) (σ : zS) : Option (Int32 × zS) :=
  f_X2_firstOpen_L4 x1 zfu (-1) 0 σ
def f_X8_rimFirst (x0 : Int32) (x1 : Int32) (σ : zS) : Option (Int32 × zS) :=
  if x0 = 0 then
    some (0, σ)
  else
    zbd (f_X9_cut ((x0 + 1) * (x0 + 1)) x1 σ) fun v1 σ1 =>
    some (zmax 0 (9999 - v1), σ1)
def f_X8_setOwn (x1 : Int32) (x2 : Int32) (x3 : Int32) (σ : zS) : Option (Int32 × zS) :=
  zwr σ 29 72 ((x1 * 12) + x2) x3 fun σ1 =>
  some (0, σ1)
def f_X8_rimLast (x0 : Int32) (x1 : Int32) (σ : zS) : Option (Int32 × zS) :=
  if x0 = 0 then
    some (9999, σ)
  else
    zbd (f_X9_cut ((x0 - 1) * (x0 - 1)) x1 σ) fun v1 σ1 =>
    some (zmax 0 (9999 - v1), σ1)
def f_X8_boundByNumbers_L2 : Nat → Int32 → zS → Option (Int32 × zS)
  | 0, _, _ => none
  | n + 1, x1, σ =>
  if (σ 17 0) ≤ x1 then
    some (0, σ)
  else
    zrd σ 18 12 x1 fun v1 =>
    zrd σ 7 10 v1 fun v2 =>
    zrd σ 23 12 x1 fun v3 =>
    zrd σ 24 12 x1 fun v4 =>
    zbd (f_X2_canBeOf x1 σ) fun v5 σ5 =>
    zwr σ5 31 12 x1 v5 fun σ6 =>
    zrd σ6 31 12 x1 fun v7 =>
    zbd (f_X2_firstOpen v7 σ6) fun v8 σ8 =>
    zbd (f_X8_rimFirst v3 v2 σ8) fun v9 σ9 =>
    zbd (f_X8_setOwn 0 x1 (zmax v8 v9) σ9) fun _ σ10 =>
    zbd (f_X8_rimLast v3 v2 σ10) fun v11 σ11 =>
    zbd (f_X8_setOwn 1 x1 v11 σ11) fun _ σ12 =>
    zbd (f_X8_rimFirst v4 v2 σ12) fun v13 σ13 =>
    zbd (f_X8_setOwn 2 x1 v13 σ13) fun _ σ14 =>
    zbd (f_X8_rimLast v4 v2 σ14) fun v15 σ15 =>
    zbd (f_X8_setOwn 3 x1 v15 σ15) fun _ σ16 =>
    zrd σ16 5 10 v1 fun v17 =>
    zbd (f_X8_setOwn 4 x1 v17 σ16) fun _ σ18 =>
    zrd σ18 6 10 v1 fun v19 =>
    zbd (f_X8_setOwn 5 x1 v19 σ18) fun _ σ20 =>
    f_X8_boundByNumbers_L2 n (x1 + 1) σ20
def f_X8_boundByNumbers (σ : zS) : Option (Int32 × zS) :=
  f_X8_boundByNumbers_L2 zfu 0 σ
def f_X8_above (x1 : Int32) (x2 : Int32) (σ : zS) : Option (Int32 × zS) :=
  if x1 = x2 then
    some ((-1), σ)
  else
    zrd σ 25 12 x1 fun v1 =>
    some (v1, σ)
def f_X8_bound (x1 : Int32) (x2 : Int32) (σ : zS) : Option (Int32 × zS) :=
  zrd σ 30 72 ((x1 * 12) + x2) fun v1 =>
  some (v1, σ)
def f_X8_raise (x1 : Int32) (x2 : Int32) (x3 : Int32) (σ : zS) : Option (Int32 × zS) :=
  zrd σ 30 72 ((x1 * 12) + x2) fun v1 =>
  zwr σ 30 72 ((x1 * 12) + x2) (zmax v1 x3) fun σ2 =>
  some (0, σ2)
def f_X8_raiseStruck_L23 (k2 : Int32 → zS → Option (Int32 × zS)) (x1 : Int32) (x2 : Int32) : Nat → Int32 → Int32 → zS → Option (Int32 × zS)
  | 0, _, _, _ => none
  | n + 1, x3, x4, σ =>
  if x3 = (-1) then
    k2 (x2 + 1) σ
  else
    if 12 ≤ x4 then
      k2 (x2 + 1) σ
    else
      zbd (f_X8_bound 0 x3 σ) fun v1 σ1 =>
      zbd (f_X8_raise 0 x2 v1 σ1) fun _ σ2 =>
      zbd (f_X8_above x3 x1 σ2) fun v3 σ3 =>
      f_X8_raiseStruck_L23 k2 x1 x2 n v3 (x4 + 1) σ3
def f_X8_raiseStruck_L2 (x1 : Int32) : Nat → Int32 → zS → Option (Int32 × zS)
  | 0, _, _ => none
  | n + 1, x2, σ =>
  if (σ 17 0) ≤ x2 then
    some (0, σ)
  else
    zbd (f_X8_above x2 x1 σ) fun v1 σ1 =>
    f_X8_raiseStruck_L23 (fun x2 σ => f_X8_raiseStruck_L2 x1 n x2 σ) x1 x2 zfu v1 0 σ1
def f_X8_raiseStruck (x1 : Int32) (σ : zS) : Option (Int32 × zS) :=
  f_X8_raiseStruck_L2 x1 zfu 0 σ
def f_X8_raiseLaid_J95 (k58 : Int32 → zS → Option (Int32 × zS)) (x1 : Int32) (x2 : Int32) (s0 : Int32) (σ : zS) : Option (Int32 × zS) :=
  if s0 = 0 then
    k58 (x2 + 1) σ
  else
    zrd σ 22 12 x2 fun v1 =>
    zrd σ 22 12 x1 fun v2 =>
    if v1 ≤ v2 then
      k58 (x2 + 1) σ
    else
      zbd (f_X8_bound 4 x2 σ) fun v3 σ3 =>
      zbd (f_X8_raise 4 x1 v3 σ3) fun _ σ4 =>
      k58 (x2 + 1) σ4
def f_X8_raiseLaid_L58 (k45 : Int32 → zS → Option (Int32 × zS)) (x1 : Int32) : Nat → Int32 → zS → Option (Int32 × zS)
  | 0, _, _ => none
  | n + 1, x2, σ =>
  if (σ 17 0) ≤ x2 then
    k45 (x1 + 1) σ
  else
    zrd σ 18 12 x2 fun v1 =>
    zrd σ 18 12 x1 fun v2 =>
    if v1 = v2 then
      f_X8_raiseLaid_J95 (fun x2 σ => f_X8_raiseLaid_L58 k45 x1 n x2 σ) x1 x2 1 σ
    else
      f_X8_raiseLaid_J95 (fun x2 σ => f_X8_raiseLaid_L58 k45 x1 n x2 σ) x1 x2 0 σ
def f_X8_raiseLaid_L45 : Nat → Int32 → zS → Option (Int32 × zS)
  | 0, _, _ => none
  | n + 1, x1, σ =>
  if (σ 17 0) ≤ x1 then
    some (0, σ)
  else
    f_X8_raiseLaid_L58 (fun x1 σ => f_X8_raiseLaid_L45 n x1 σ) x1 zfu 0 σ
def f_X8_raiseLaid_L2 : Nat → Int32 → zS → Option (Int32 × zS)
  | 0, _, _ => none
  | n + 1, x1, σ =>
  if (σ 17 0) ≤ x1 then
    f_X8_raiseLaid_L45 zfu 0 σ
  else
    zbd (f_X8_bound 0 x1 σ) fun v1 σ1 =>
    zbd (f_X8_raise 2 x1 v1 σ1) fun _ σ2 =>
    zbd (f_X8_bound 2 x1 σ2) fun v3 σ3 =>
    zbd (f_X8_raise 4 x1 v3 σ3) fun _ σ4 =>
    f_X8_raiseLaid_L2 n (x1 + 1) σ4
def f_X8_raiseLaid (σ : zS) : Option (Int32 × zS) :=
  f_X8_raiseLaid_L2 zfu 0 σ
def f_X8_lower (x1 : Int32) (x2 : Int32) (x3 : Int32) (σ : zS) : Option (Int32 × zS) :=
  zrd σ 30 72 ((x1 * 12) + x2) fun v1 =>
  zwr σ 30 72 ((x1 * 12) + x2) (zmin v1 x3) fun σ2 =>
  some (0, σ2)
def f_X8_lowerStruck_L66 (k45 : Int32 → zS → Option (Int32 × zS)) (x1 : Int32) (x2 : Int32) : Nat → Int32 → Int32 → zS → Option (Int32 × zS)
  | 0, _, _, _ => none
  | n + 1, x3, x4, σ =>
  if x3 = (-1) then
    k45 (x2 + 1) σ
  else
    if 12 ≤ x4 then
      k45 (x2 + 1) σ
    else
      zbd (f_X8_bound 1 x2 σ) fun v1 σ1 =>
      zbd (f_X8_lower 1 x3 v1 σ1) fun _ σ2 =>
      zbd (f_X8_above x3 x1 σ2) fun v3 σ3 =>
      f_X8_lowerStruck_L66 k45 x1 x2 n v3 (x4 + 1) σ3
def f_X8_lowerStruck_L45 (x1 : Int32) : Nat → Int32 → zS → Option (Int32 × zS)
  | 0, _, _ => none
  | n + 1, x2, σ =>
  if (σ 17 0) ≤ x2 then
    some (0, σ)
  else
    zbd (f_X8_above x2 x1 σ) fun v1 σ1 =>
    f_X8_lowerStruck_L66 (fun x2 σ => f_X8_lowerStruck_L45 x1 n x2 σ) x1 x2 zfu v1 0 σ1
def f_X8_lowerStruck_L2 (x1 : Int32) : Nat → Int32 → zS → Option (Int32 × zS)
  | 0, _, _ => none
  | n + 1, x2, σ =>
  if (σ 17 0) ≤ x2 then
    f_X8_lowerStruck_L45 x1 zfu 0 σ
  else
    zbd (f_X8_bound 5 x2 σ) fun v1 σ1 =>
    zbd (f_X8_lower 3 x2 v1 σ1) fun _ σ2 =>
    zbd (f_X8_bound 3 x2 σ2) fun v3 σ3 =>
    zbd (f_X8_lower 1 x2 v3 σ3) fun _ σ4 =>
    f_X8_lowerStruck_L2 x1 n (x2 + 1) σ4
def f_X8_lowerStruck (x1 : Int32) (σ : zS) : Option (Int32 × zS) :=
  f_X8_lowerStruck_L2 x1 zfu 0 σ
def f_X8_hasWay_L4 : Nat → Int32 → Int32 → zS → Option (Int32 × zS)
  | 0, _, _, _ => none
  | n + 1, x1, x2, σ =>
  if x1 = 0 then
    zrb x1 σ
  else
    if (σ 17 0) ≤ x2 then
      zrb x1 σ
    else
      zbd (f_X8_bound 0 x2 σ) fun v1 σ1 =>
      zbd (f_X8_bound 1 x2 σ1) fun v2 σ2 =>
      if v2 < v1 then
        f_X8_hasWay_L4 n 0 (x2 + 1) σ2
      else
        zbd (f_X8_bound 2 x2 σ2) fun v3 σ3 =>
        zbd (f_X8_bound 3 x2 σ3) fun v4 σ4 =>
        if v4 < v3 then
          f_X8_hasWay_L4 n 0 (x2 + 1) σ4
        else
          zbd (f_X8_bound 4 x2 σ4) fun v5 σ5 =>
          zbd (f_X8_bound 5 x2 σ5) fun v6 σ6 =>
          if v6 < v5 then
            f_X8_hasWay_L4 n 0 (x2 + 1) σ6
          else
            f_X8_hasWay_L4 n 1 (x2 + 1) σ6
def f_X8_hasWay (σ : zS) : Option (Int32 × zS) :=
  f_X8_hasWay_L4 zfu 1 0 σ
def f_X8_settleWithout (x1 : Int32) (σ : zS) : Option (Int32 × zS) :=
  zcp σ 29 30 72 fun σ1 =>
  zbd (f_X8_raiseStruck x1 σ1) fun _ σ2 =>
  zbd (f_X8_raiseLaid σ2) fun _ σ3 =>
  zbd (f_X8_lowerStruck x1 σ3) fun _ σ4 =>
  zbd (f_X8_hasWay σ4) fun v5 σ5 =>
  zrb v5 σ5
def f_X8_settle (σ : zS) : Option (Int32 × zS) :=
  zbd (f_X8_boundByNumbers σ) fun _ σ1 =>
  zbd (f_X8_settleWithout (-1) σ1) fun v2 σ2 =>
  zrb v2 σ2
def f_X0_isReused (x1 : Int32) (σ : zS) : Option (Int32 × zS) :=
  zrd σ 24 12 x1 fun v1 =>
  if v1 ≤ 0 then
    some (0, σ)
  else
    some (1, σ)
def f_X9_span_J59 (x1 : Int32) (x2 : Int32) (σ : zS) : Option (Int32 × zS) :=
  zbd (f_X8_settle σ) fun v1 σ1 =>
  if v1 = 0 then
    some ((-1), σ1)
  else
    zbd (f_X8_bound x2 x1 σ1) fun v2 σ2 =>
    some (v2, σ2)
def f_X9_span_J41 (x1 : Int32) (x2 : Int32) (s0 : Int32) (σ : zS) : Option (Int32 × zS) :=
  if s0 = 0 then
    f_X9_span_J59 x1 x2 σ
  else
    zbd (f_X0_isReused x1 σ) fun v1 σ1 =>
    if v1 = 0 then
      some ((-1), σ1)
    else
      f_X9_span_J59 x1 x2 σ1
def f_X9_span (x1 : Int32) (x2 : Int32) (σ : zS) : Option (Int32 × zS) :=
  zbd (f_X0_has x1 σ) fun v1 σ1 =>
  if v1 = 0 then
    some ((-2), σ1)
  else
    zbd (f_X9_isWithin x2 0 5 σ1) fun v2 σ2 =>
    if v2 = 0 then
      some ((-3), σ2)
    else
      if x2 = 2 then
        f_X9_span_J41 x1 x2 1 σ2
      else
        if x2 = 3 then
          f_X9_span_J41 x1 x2 1 σ2
        else
          f_X9_span_J41 x1 x2 0 σ2
def f_X8_heirloomOf_J34 (x1 : Int32) (x3 : Int32) (s0 : Int32) (σ : zS) : Option (Int32 × zS) :=
  zbd (f_X8_bound s0 x1 σ) fun v1 σ1 =>
  zbd (f_X8_bound 4 x1 σ1) fun v2 σ2 =>
  if v2 ≤ v1 then
    zbd (f_X8_bound 5 x1 σ2) fun v3 σ3 =>
    if v3 ≤ x3 then
      some (0, σ3)
    else
      some (1, σ3)
  else
    some (2, σ2)
def f_X8_heirloomOf_J19 (x1 : Int32) (x2 : Int32) (s0 : Int32) (σ : zS) : Option (Int32 × zS) :=
  zbd (f_X8_bound s0 x1 σ) fun v1 σ1 =>
  if x2 = 0 then
    f_X8_heirloomOf_J34 x1 v1 1 σ1
  else
    f_X8_heirloomOf_J34 x1 v1 3 σ1
def f_X8_heirloomOf (x1 : Int32) (σ : zS) : Option (Int32 × zS) :=
  zbd (f_X0_isReused x1 σ) fun v1 σ1 =>
  if v1 = 0 then
    f_X8_heirloomOf_J19 x1 v1 0 σ1
  else
    f_X8_heirloomOf_J19 x1 v1 2 σ1
def f_X9_heirloom (x1 : Int32) (σ : zS) : Option (Int32 × zS) :=
  zbd (f_X0_has x1 σ) fun v1 σ1 =>
  if v1 = 0 then
    some ((-2), σ1)
  else
    zbd (f_X8_settle σ1) fun v2 σ2 =>
    if v2 = 0 then
      some ((-1), σ2)
    else
      zbd (f_X8_heirloomOf x1 σ2) fun v3 σ3 =>
      some (v3, σ3)
def f_X5_isLikely (x1 : Int32) (x2 : Int32) (σ : zS) : Option (Int32 × zS) :=
  zrd σ 31 12 x1 fun v1 =>
  zrd σ 31 12 x2 fun v2 =>
  if (v1 &&& v2) = 0 then
    some (0, σ)
  else
    zrd σ 21 12 x2 fun v3 =>
    zrd σ 21 12 x1 fun v4 =>
    if v3 ≤ v4 then
      some (0, σ)
    else
      zbd (f_X0_comesFrom x2 x1 σ) fun v5 σ5 =>
      if v5 = 0 then
        some (1, σ5)
      else
        some (0, σ5)
def f_X5_leavesWay (x1 : Int32) (x2 : Int32) (σ : zS) : Option (Int32 × zS) :=
  zbd (f_X8_bound 0 x2 σ) fun v1 σ1 =>
  zbd (f_X8_bound 1 x1 σ1) fun v2 σ2 =>
  if v2 < v1 then
    some (0, σ2)
  else
    some (1, σ2)
def f_X5_findMayFrom_L17 (x1 : Int32) : Nat → Int32 → Int32 → zS → Option (Int32 × zS)
  | 0, _, _, _ => none
  | n + 1, x2, x3, σ =>
  if (σ 17 0) ≤ x3 then
    some (x2, σ)
  else
    zbd (f_X5_isLikely x1 x3 σ) fun v1 σ1 =>
    if v1 = 0 then
      f_X5_findMayFrom_L17 x1 n x2 (x3 + 1) σ1
    else
      zbd (f_X5_leavesWay x1 x3 σ1) fun v2 σ2 =>
      if v2 = 0 then
        f_X5_findMayFrom_L17 x1 n x2 (x3 + 1) σ2
      else
        f_X5_findMayFrom_L17 x1 n (x2 ||| ((1 : Int32) <<< (x3 &&& 31))) (x3 + 1) σ2
def f_X5_findMayFrom (x1 : Int32) (σ : zS) : Option (Int32 × zS) :=
  zbd (f_X8_settleWithout x1 σ) fun v1 σ1 =>
  if v1 = 0 then
    some (0, σ1)
  else
    f_X5_findMayFrom_L17 x1 zfu 0 0 σ1
def f_X5_mayBeFrom (x1 : Int32) (σ : zS) : Option (Int32 × zS) :=
  zbd (f_X8_boundByNumbers σ) fun _ σ1 =>
  zbd (f_X5_findMayFrom x1 σ1) fun v2 σ2 =>
  some (v2, σ2)
def f_X9_from (x1 : Int32) (σ : zS) : Option (Int32 × zS) :=
  zbd (f_X0_has x1 σ) fun v1 σ1 =>
  if v1 = 0 then
    some ((-2), σ1)
  else
    zbd (f_X5_mayBeFrom x1 σ1) fun v2 σ2 =>
    some (v2, σ2)
def f_X5_lengthFrom_L4 (x1 : Int32) : Nat → Int32 → Int32 → zS → Option (Int32 × zS)
  | 0, _, _, _ => none
  | n + 1, x2, x3, σ =>
  if (σ 17 0) ≤ x3 then
    some (x2, σ)
  else
    zrd σ 33 12 x3 fun v1 =>
    zbd (f_X9_hasBit v1 x1 σ) fun v2 σ2 =>
    if v2 = 0 then
      f_X5_lengthFrom_L4 x1 n x2 (x3 + 1) σ2
    else
      zrd σ2 34 12 x3 fun v3 =>
      f_X5_lengthFrom_L4 x1 n (zmax x2 (v3 + 1)) (x3 + 1) σ2
def f_X5_lengthFrom (x1 : Int32) (σ : zS) : Option (Int32 × zS) :=
  f_X5_lengthFrom_L4 x1 zfu 1 0 σ
def f_X5_measureRows_J82 (k44 : Int32 → Int32 → zS → Option (Int32 × zS)) (x2 : Int32) (x3 : Int32) (x4 : Int32) (s0 : Int32) (σ : zS) : Option (Int32 × zS) :=
  zwr σ 34 12 x3 x4 fun σ1 =>
  k44 s0 (x3 + 1) σ1
def f_X5_measureRows_L44 (k30 : Int32 → Int32 → zS → Option (Int32 × zS)) (x2 : Int32) : Nat → Int32 → Int32 → zS → Option (Int32 × zS)
  | 0, _, _, _ => none
  | n + 1, x1, x3, σ =>
  if (σ 17 0) ≤ x3 then
    k30 x1 (x2 + 1) σ
  else
    zbd (f_X5_lengthFrom x3 σ) fun v1 σ1 =>
    if x1 = 0 then
      zrd σ1 34 12 x3 fun v2 =>
      if v1 ≤ v2 then
        f_X5_measureRows_J82 (fun x1 x3 σ => f_X5_measureRows_L44 k30 x2 n x1 x3 σ) x2 x3 v1 0 σ1
      else
        f_X5_measureRows_J82 (fun x1 x3 σ => f_X5_measureRows_L44 k30 x2 n x1 x3 σ) x2 x3 v1 1 σ1
    else
      f_X5_measureRows_J82 (fun x1 x3 σ => f_X5_measureRows_L44 k30 x2 n x1 x3 σ) x2 x3 v1 1 σ1
def f_X5_measureRows_L30 : Nat → Int32 → Int32 → zS → Option (Int32 × zS)
  | 0, _, _, _ => none
  | n + 1, x1, x2, σ =>
  if x1 = 0 then
    some (0, σ)
  else
    if 12 ≤ x2 then
      some (0, σ)
    else
      f_X5_measureRows_L44 (fun x1 x2 σ => f_X5_measureRows_L30 n x1 x2 σ) x2 zfu 0 0 σ
def f_X5_measureRows_L2 : Nat → Int32 → zS → Option (Int32 × zS)
  | 0, _, _ => none
  | n + 1, x1, σ =>
  if (σ 17 0) ≤ x1 then
    f_X5_measureRows_L30 zfu 1 0 σ
  else
    zwr σ 34 12 x1 1 fun σ1 =>
    f_X5_measureRows_L2 n (x1 + 1) σ1
def f_X5_measureRows (σ : zS) : Option (Int32 × zS) :=
  f_X5_measureRows_L2 zfu 0 σ
def f_X5_firstBehind_J36 (k2 : Int32 → zS → Option (Int32 × zS)) (x1 : Int32) (x2 : Int32) (x3 : Int32) (s0 : Int32) (σ : zS) : Option (Int32 × zS) :=
  if s0 = 0 then
    k2 (x3 + 1) σ
  else
    zrd σ 34 12 x3 fun v1 =>
    if v1 = x2 then
      some (x3, σ)
    else
      k2 (x3 + 1) σ
def f_X5_firstBehind_L2 (x1 : Int32) (x2 : Int32) : Nat → Int32 → zS → Option (Int32 × zS)
  | 0, _, _ => none
  | n + 1, x3, σ =>
  if (σ 17 0) ≤ x3 then
    some ((-1), σ)
  else
    if x1 = (-1) then
      f_X5_firstBehind_J36 (fun x3 σ => f_X5_firstBehind_L2 x1 x2 n x3 σ) x1 x2 x3 1 σ
    else
      zrd σ 33 12 x3 fun v1 =>
      zbd (f_X9_hasBit v1 x1 σ) fun v2 σ2 =>
      if v2 = 0 then
        f_X5_firstBehind_J36 (fun x3 σ => f_X5_firstBehind_L2 x1 x2 n x3 σ) x1 x2 x3 0 σ2
      else
        f_X5_firstBehind_J36 (fun x3 σ => f_X5_firstBehind_L2 x1 x2 n x3 σ) x1 x2 x3 1 σ2
def f_X5_firstBehind (x1 : Int32) (x2 : Int32) (σ : zS) : Option (Int32 × zS) :=
  f_X5_firstBehind_L2 x1 x2 zfu 0 σ
def f_X5_layRow_L46 (x1 : Int32) : Nat → Int32 → Int32 → zS → Option (Int32 × zS)
  | 0, _, _, _ => none
  | n + 1, x2, x3, σ =>
  if (σ 32 5) ≤ x3 then
    some (0, σ)
  else
    zbd (f_X5_firstBehind x2 (x1 - x3) σ) fun v1 σ1 =>
    zwr σ1 35 12 x3 (zmax 0 v1) fun σ2 =>
    f_X5_layRow_L46 x1 n v1 (x3 + 1) σ2
def f_X5_layRow_L4 : Nat → Int32 → Int32 → zS → Option (Int32 × zS)
  | 0, _, _, _ => none
  | n + 1, x1, x2, σ =>
  if (σ 17 0) ≤ x2 then
    zst σ 32 5 (zmin x1 12) fun σ1 =>
    f_X5_layRow_L46 x1 zfu (-1) 0 σ1
  else
    zrd σ 34 12 x2 fun v1 =>
    f_X5_layRow_L4 n (zmax x1 v1) (x2 + 1) σ
def f_X5_layRow (σ : zS) : Option (Int32 × zS) :=
  f_X5_layRow_L4 zfu 0 0 σ
def f_X5_longestRow_L9 (x1 : Int32) : Nat → Int32 → zS → Option (Int32 × zS)
  | 0, _, _ => none
  | n + 1, x2, σ =>
  if (σ 17 0) ≤ x2 then
    zbd (f_X5_measureRows σ) fun _ σ1 =>
    zbd (f_X5_layRow σ1) fun _ σ2 =>
    if x1 = (-1) then
      some (σ2 32 5, σ2)
    else
      if x1 = (-2) then
        if (σ2 32 5) = 0 then
          some (0, σ2)
        else
          zrd σ2 35 12 0 fun v3 =>
          zrd σ2 21 12 v3 fun v4 =>
          zrd σ2 35 12 ((σ2 32 5) - 1) fun v5 =>
          zrd σ2 21 12 v5 fun v6 =>
          some (v4 - v6, σ2)
      else
        zbd (f_X9_isWithin x1 0 ((σ2 32 5) - 1) σ2) fun v3 σ3 =>
        if v3 = 0 then
          some ((-1), σ3)
        else
          zrd σ3 35 12 x1 fun v4 =>
          some (v4, σ3)
  else
    zbd (f_X5_findMayFrom x2 σ) fun v1 σ1 =>
    zwr σ1 33 12 x2 v1 fun σ2 =>
    f_X5_longestRow_L9 x1 n (x2 + 1) σ2
def f_X5_longestRow (x1 : Int32) (σ : zS) : Option (Int32 × zS) :=
  zbd (f_X8_boundByNumbers σ) fun _ σ1 =>
  f_X5_longestRow_L9 x1 zfu 0 σ1
def f_X9_chain (x1 : Int32) (σ : zS) : Option (Int32 × zS) :=
  if (-2) ≤ x1 then
    zbd (f_X5_longestRow x1 σ) fun v1 σ1 =>
    some (v1, σ1)
  else
    some ((-3), σ)
def f_X3_liveIn_L4 (x1 : Int32) : Nat → Int32 → Int32 → zS → Option (Int32 × zS)
  | 0, _, _, _ => none
  | n + 1, x2, x3, σ =>
  if 10 ≤ x3 then
    some (x2, σ)
  else
    zrd σ 5 10 x3 fun v1 =>
    zrd σ 6 10 x3 fun v2 =>
    zbd (f_X9_isWithin x1 v1 v2 σ) fun v3 σ3 =>
    if v3 = 0 then
      f_X3_liveIn_L4 x1 n x2 (x3 + 1) σ3
    else
      f_X3_liveIn_L4 x1 n (x2 ||| ((1 : Int32) <<< (x3 &&& 31))) (x3 + 1) σ3
def f_X3_liveIn (x1 : Int32) (σ : zS) : Option (Int32 × zS) :=
  f_X3_liveIn_L4 x1 zfu 0 0 σ
def f_X3_waysFrom (x1 : Int32) (x2 : Int32) (σ : zS) : Option (Int32 × zS) :=
  if x2 = 0 then
    zrd σ 15 10 x1 fun v1 =>
    some (v1, σ)
  else
    zrd σ 15 10 x1 fun v1 =>
    zrd σ 16 10 x1 fun v2 =>
    some (v1 ||| v2, σ)
def f_X4_fewestLegs_L37 (k12 : Int32 → Int32 → Int32 → zS → Option (Int32 × zS)) (x2 : Int32) (x3 : Int32) (x4 : Int32) (x5 : Int32) (x6 : Int32) (x7 : Int32) : Nat → Int32 → Int32 → zS → Option (Int32 × zS)
  | 0, _, _, _ => none
  | n + 1, x8, x9, σ =>
  if 10 ≤ x9 then
    if ((x8 &&& x3) &&& (x5 ^^^ (-1))) = 0 then
      some ((-1), σ)
    else
      k12 (x5 ||| ((x8 &&& x3) &&& (x5 ^^^ (-1)))) ((x8 &&& x3) &&& (x5 ^^^ (-1))) (x7 + 1) σ
  else
    zbd (f_X9_hasBit x6 x9 σ) fun v1 σ1 =>
    if v1 = 0 then
      f_X4_fewestLegs_L37 k12 x2 x3 x4 x5 x6 x7 n x8 (x9 + 1) σ1
    else
      zbd (f_X3_waysFrom x9 x4 σ1) fun v2 σ2 =>
      f_X4_fewestLegs_L37 k12 x2 x3 x4 x5 x6 x7 n (x8 ||| v2) (x9 + 1) σ2
def f_X4_fewestLegs_L12 (x2 : Int32) (x3 : Int32) (x4 : Int32) : Nat → Int32 → Int32 → Int32 → zS → Option (Int32 × zS)
  | 0, _, _, _, _ => none
  | n + 1, x5, x6, x7, σ =>
  if 10 ≤ x7 then
    some ((-1), σ)
  else
    zbd (f_X9_hasBit x5 x2 σ) fun v1 σ1 =>
    if v1 = 0 then
      f_X4_fewestLegs_L37 (fun x5 x6 x7 σ => f_X4_fewestLegs_L12 x2 x3 x4 n x5 x6 x7 σ) x2 x3 x4 x5 x6 x7 zfu 0 0 σ1
    else
      some (x7, σ1)
def f_X4_fewestLegs (x1 : Int32) (x2 : Int32) (x3 : Int32) (x4 : Int32) (σ : zS) : Option (Int32 × zS) :=
  f_X4_fewestLegs_L12 x2 x3 x4 zfu ((1 : Int32) <<< (x1 &&& 31)) ((1 : Int32) <<< (x1 &&& 31)) 0 σ
def f_X4_nearestOf_L4 (x1 : Int32) : Nat → Int32 → Int32 → zS → Option (Int32 × zS)
  | 0, _, _, _ => none
  | n + 1, x2, x3, σ =>
  if 10 ≤ x3 then
    some (x2, σ)
  else
    zbd (f_X9_hasBit x1 x3 σ) fun v1 σ1 =>
    if v1 = 0 then
      f_X4_nearestOf_L4 x1 n x2 (x3 + 1) σ1
    else
      zrd σ1 37 10 x3 fun v2 =>
      if v2 = (-1) then
        f_X4_nearestOf_L4 x1 n x2 (x3 + 1) σ1
      else
        if x2 = (-1) then
          f_X4_nearestOf_L4 x1 n x3 (x3 + 1) σ1
        else
          zrd σ1 37 10 x3 fun v3 =>
          zrd σ1 37 10 x2 fun v4 =>
          if v4 ≤ v3 then
            f_X4_nearestOf_L4 x1 n x2 (x3 + 1) σ1
          else
            f_X4_nearestOf_L4 x1 n x3 (x3 + 1) σ1
def f_X4_nearestOf (x1 : Int32) (σ : zS) : Option (Int32 × zS) :=
  f_X4_nearestOf_L4 x1 zfu (-1) 0 σ
def f_X3_milesOf_J32 (x4 : Int32) (s0 : Int32) (σ : zS) : Option (Int32 × zS) :=
  if x4 = 0 then
    some (x4 + s0, σ)
  else
    if s0 = 0 then
      some (x4 + s0, σ)
    else
      some (zmin x4 s0, σ)
def f_X3_milesOf (x1 : Int32) (x2 : Int32) (x3 : Int32) (σ : zS) : Option (Int32 × zS) :=
  zrd σ 13 100 ((x1 * 10) + x2) fun v1 =>
  if x3 = 0 then
    f_X3_milesOf_J32 v1 0 σ
  else
    zrd σ 14 100 ((x1 * 10) + x2) fun v2 =>
    f_X3_milesOf_J32 v1 v2 σ
def f_X4_goOnFrom_J34 (k3 : Int32 → zS → Option (Int32 × zS)) (x1 : Int32) (x2 : Int32) (x3 : Int32) (x4 : Int32) (s0 : Int32) (σ : zS) : Option (Int32 × zS) :=
  if s0 ≤ 0 then
    k3 (x4 + 1) σ
  else
    zrd σ 37 10 x4 fun v1 =>
    zrd σ 37 10 x1 fun v2 =>
    zbd (f_X9_lesser v1 (v2 + s0) σ) fun v3 σ3 =>
    zwr σ3 37 10 x4 v3 fun σ4 =>
    k3 (x4 + 1) σ4
def f_X4_goOnFrom_L3 (x1 : Int32) (x2 : Int32) (x3 : Int32) : Nat → Int32 → zS → Option (Int32 × zS)
  | 0, _, _ => none
  | n + 1, x4, σ =>
  if 10 ≤ x4 then
    some (0, σ)
  else
    zbd (f_X9_hasBit x2 x4 σ) fun v1 σ1 =>
    if v1 = 0 then
      f_X4_goOnFrom_J34 (fun x4 σ => f_X4_goOnFrom_L3 x1 x2 x3 n x4 σ) x1 x2 x3 x4 0 σ1
    else
      zbd (f_X3_milesOf x1 x4 x3 σ1) fun v2 σ2 =>
      f_X4_goOnFrom_J34 (fun x4 σ => f_X4_goOnFrom_L3 x1 x2 x3 n x4 σ) x1 x2 x3 x4 v2 σ2
def f_X4_goOnFrom (x1 : Int32) (x2 : Int32) (x3 : Int32) (σ : zS) : Option (Int32 × zS) :=
  f_X4_goOnFrom_L3 x1 x2 x3 zfu 0 σ
def f_X4_measureMiles_L39 (x2 : Int32) (x3 : Int32) : Nat → Int32 → Int32 → zS → Option (Int32 × zS)
  | 0, _, _, _ => none
  | n + 1, x4, x5, σ =>
  if 10 ≤ x5 then
    some (0, σ)
  else
    zbd (f_X4_nearestOf x4 σ) fun v1 σ1 =>
    if v1 = (-1) then
      some (0, σ1)
    else
      zbd (f_X4_goOnFrom v1 ((x4 &&& (((1 : Int32) <<< (v1 &&& 31)) ^^^ (-1))) &&& x2) x3 σ1) fun _ σ2 =>
      f_X4_measureMiles_L39 x2 x3 n (x4 &&& (((1 : Int32) <<< (v1 &&& 31)) ^^^ (-1))) (x5 + 1) σ2
def f_X4_measureMiles_L3 (x1 : Int32) (x2 : Int32) (x3 : Int32) : Nat → Int32 → zS → Option (Int32 × zS)
  | 0, _, _ => none
  | n + 1, x4, σ =>
  if 10 ≤ x4 then
    zwr σ 37 10 x1 0 fun σ1 =>
    f_X4_measureMiles_L39 x2 x3 zfu 1023 0 σ1
  else
    zwr σ 37 10 x4 (-1) fun σ1 =>
    f_X4_measureMiles_L3 x1 x2 x3 n (x4 + 1) σ1
def f_X4_measureMiles (x1 : Int32) (x2 : Int32) (x3 : Int32) (σ : zS) : Option (Int32 × zS) :=
  f_X4_measureMiles_L3 x1 x2 x3 zfu 0 σ
def f_X9_legs (x1 : Int32) (x2 : Int32) (x3 : Int32) (x4 : Int32) (x5 : Int32) (σ : zS) : Option (Int32 × zS) :=
  zbd (f_X0_has x1 σ) fun v1 σ1 =>
  if v1 = 0 then
    some ((-2), σ1)
  else
    zbd (f_X3_isTold x2 σ1) fun v2 σ2 =>
    if v2 = 0 then
      some ((-2), σ2)
    else
      zbd (f_X9_isWithin x3 0 9999 σ2) fun v3 σ3 =>
      if v3 = 0 then
        some ((-3), σ3)
      else
        zbd (f_X9_isWithin x5 0 1 σ3) fun v4 σ4 =>
        if v4 = 0 then
          some ((-3), σ4)
        else
          zrd σ4 9 9 x2 fun v5 =>
          zrd σ4 18 12 x1 fun v6 =>
          zbd (f_X3_liveIn x3 σ4) fun v7 σ7 =>
          if x5 = 0 then
            zbd (f_X4_fewestLegs v5 v6 v7 x4 σ7) fun v8 σ8 =>
            some (v8, σ8)
          else
            zbd (f_X4_measureMiles v5 v7 x4 σ7) fun _ σ8 =>
            zrd σ8 37 10 v6 fun v9 =>
            some (v9, σ8)
def f_X4_yearOfChange_J53 (x4 : Int32) (x5 : Int32) (s0 : Int32) (σ : zS) : Option (Int32 × zS) :=
  zbd (f_X9_isWithin s0 x4 x5 σ) fun v1 σ1 =>
  if v1 = 0 then
    some ((-1), σ1)
  else
    some (s0, σ1)
def f_X4_yearOfChange (x1 : Int32) (x2 : Int32) (x3 : Int32) (σ : zS) : Option (Int32 × zS) :=
  zbd (f_X8_bound 0 x1 σ) fun v1 σ1 =>
  zrd σ1 10 9 x2 fun v2 =>
  zbd (f_X8_bound 5 x1 σ1) fun v3 σ3 =>
  if x3 = (-1) then
    f_X4_yearOfChange_J53 (zmax v1 v2) v3 (zmax v1 v2) σ3
  else
    zrd σ3 5 10 x3 fun v4 =>
    f_X4_yearOfChange_J53 (zmax v1 v2) v3 v4 σ3
def f_X4_legsIn (x1 : Int32) (x2 : Int32) (x3 : Int32) (x4 : Int32) (σ : zS) : Option (Int32 × zS) :=
  if x1 = (-1) then
    some ((-1), σ)
  else
    zrd σ 9 9 x3 fun v1 =>
    zrd σ 18 12 x2 fun v2 =>
    zbd (f_X3_liveIn x1 σ) fun v3 σ3 =>
    zbd (f_X4_fewestLegs v1 v2 v3 x4 σ3) fun v4 σ4 =>
    some (v4, σ4)
def f_X4_firstYear_L6 (x1 : Int32) (x2 : Int32) (x3 : Int32) : Nat → Int32 → Int32 → zS → Option (Int32 × zS)
  | 0, _, _, _ => none
  | n + 1, x4, x5, σ =>
  if 10 ≤ x5 then
    some (x4, σ)
  else
    zbd (f_X4_yearOfChange x1 x2 x5 σ) fun v1 σ1 =>
    zbd (f_X4_legsIn v1 x1 x2 x3 σ1) fun v2 σ2 =>
    if v2 = (-1) then
      f_X4_firstYear_L6 x1 x2 x3 n x4 (x5 + 1) σ2
    else
      zbd (f_X9_lesser x4 v1 σ2) fun v3 σ3 =>
      f_X4_firstYear_L6 x1 x2 x3 n v3 (x5 + 1) σ3
def f_X4_firstYear (x1 : Int32) (x2 : Int32) (x3 : Int32) (σ : zS) : Option (Int32 × zS) :=
  f_X4_firstYear_L6 x1 x2 x3 zfu (-1) (-1) σ
def f_X4_legsInAnyYear_L6 (x1 : Int32) (x2 : Int32) (x3 : Int32) : Nat → Int32 → Int32 → zS → Option (Int32 × zS)
  | 0, _, _, _ => none
  | n + 1, x4, x5, σ =>
  if 10 ≤ x5 then
    some (x4, σ)
  else
    zbd (f_X4_yearOfChange x1 x2 x5 σ) fun v1 σ1 =>
    zbd (f_X4_legsIn v1 x1 x2 x3 σ1) fun v2 σ2 =>
    if v2 = (-1) then
      f_X4_legsInAnyYear_L6 x1 x2 x3 n x4 (x5 + 1) σ2
    else
      zbd (f_X9_lesser x4 v2 σ2) fun v3 σ3 =>
      f_X4_legsInAnyYear_L6 x1 x2 x3 n v3 (x5 + 1) σ3
def f_X4_legsInAnyYear (x1 : Int32) (x2 : Int32) (x3 : Int32) (σ : zS) : Option (Int32 × zS) :=
  f_X4_legsInAnyYear_L6 x1 x2 x3 zfu (-1) (-1) σ
def f_X9_reach (x1 : Int32) (x2 : Int32) (x3 : Int32) (x4 : Int32) (σ : zS) : Option (Int32 × zS) :=
  zbd (f_X0_has x1 σ) fun v1 σ1 =>
  if v1 = 0 then
    some ((-2), σ1)
  else
    zbd (f_X3_isTold x2 σ1) fun v2 σ2 =>
    if v2 = 0 then
      some ((-2), σ2)
    else
      zbd (f_X9_isWithin x4 0 1 σ2) fun v3 σ3 =>
      if v3 = 0 then
        some ((-3), σ3)
      else
        zbd (f_X8_settle σ3) fun v4 σ4 =>
        if v4 = 0 then
          some ((-1), σ4)
        else
          if x4 = 0 then
            zbd (f_X4_firstYear x1 x2 x3 σ4) fun v5 σ5 =>
            some (v5, σ5)
          else
            zbd (f_X4_legsInAnyYear x1 x2 x3 σ4) fun v5 σ5 =>
            some (v5, σ5)
def f_X4_mustHaveSailed_L15 (x1 : Int32) (x2 : Int32) : Nat → Int32 → Int32 → zS → Option (Int32 × zS)
  | 0, _, _, _ => none
  | n + 1, x3, x4, σ =>
  if 9 ≤ x4 then
    zrb x3 σ
  else
    zbd (f_X9_hasBit x2 x4 σ) fun v1 σ1 =>
    if v1 = 0 then
      f_X4_mustHaveSailed_L15 x1 x2 n x3 (x4 + 1) σ1
    else
      zbd (f_X4_firstYear x1 x4 0 σ1) fun v2 σ2 =>
      if v2 = (-1) then
        if x3 = 0 then
          zbd (f_X4_firstYear x1 x4 1 σ2) fun v3 σ3 =>
          if v3 = (-1) then
            f_X4_mustHaveSailed_L15 x1 x2 n 0 (x4 + 1) σ3
          else
            f_X4_mustHaveSailed_L15 x1 x2 n 1 (x4 + 1) σ3
        else
          f_X4_mustHaveSailed_L15 x1 x2 n 1 (x4 + 1) σ2
      else
        some (0, σ2)
def f_X4_mustHaveSailed (x1 : Int32) (σ : zS) : Option (Int32 × zS) :=
  zrd σ 31 12 x1 fun v1 =>
  f_X4_mustHaveSailed_L15 x1 v1 zfu 0 0 σ
def f_X4_comeByBoat_L16 : Nat → Int32 → Int32 → zS → Option (Int32 × zS)
  | 0, _, _, _ => none
  | n + 1, x1, x2, σ =>
  if (σ 17 0) ≤ x2 then
    some (x1, σ)
  else
    zbd (f_X4_mustHaveSailed x2 σ) fun v1 σ1 =>
    if v1 = 0 then
      f_X4_comeByBoat_L16 n x1 (x2 + 1) σ1
    else
      f_X4_comeByBoat_L16 n (x1 ||| ((1 : Int32) <<< (x2 &&& 31))) (x2 + 1) σ1
def f_X4_comeByBoat (σ : zS) : Option (Int32 × zS) :=
  zbd (f_X8_settle σ) fun v1 σ1 =>
  if v1 = 0 then
    some (0, σ1)
  else
    f_X4_comeByBoat_L16 zfu 0 0 σ1
def f_X9_boats (σ : zS) : Option (Int32 × zS) :=
  zbd (f_X4_comeByBoat σ) fun v1 σ1 =>
  some (v1, σ1)
def f_X9_sea_L12 (x1 : Int32) : Nat → Int32 → Int32 → zS → Option (Int32 × zS)
  | 0, _, _, _ => none
  | n + 1, x2, x3, σ =>
  if (σ 17 0) ≤ x3 then
    some (x2, σ)
  else
    zbd (f_X9_hasBit x1 x3 σ) fun v1 σ1 =>
    if v1 = 0 then
      f_X9_sea_L12 x1 n x2 (x3 + 1) σ1
    else
      zbd (f_X8_bound 5 x3 σ1) fun v2 σ2 =>
      zbd (f_X9_lesser x2 v2 σ2) fun v3 σ3 =>
      f_X9_sea_L12 x1 n v3 (x3 + 1) σ3
def f_X9_sea (σ : zS) : Option (Int32 × zS) :=
  zbd (f_X4_comeByBoat σ) fun v1 σ1 =>
  f_X9_sea_L12 v1 zfu (-1) 0 σ1
def f_X2_nextToMeasure_J62 (k9 : Int32 → Int32 → Int32 → Int32 → zS → Option (Int32 × zS)) (x4 : Int32) (x5 : Int32) (x6 : Int32) (σ : zS) : Option (Int32 × zS) :=
  k9 x4 x5 x6 (x4 + 1) σ
def f_X2_nextToMeasure_L9 : Nat → Int32 → Int32 → Int32 → Int32 → zS → Option (Int32 × zS)
  | 0, _, _, _, _, _ => none
  | n + 1, x1, x2, x3, x4, σ =>
  if (σ 17 0) ≤ x4 then
    some (x1, σ)
  else
    zbd (f_X2_canBeOf x4 σ) fun v1 σ1 =>
    zbd (f_J6_bitCount_0f7a4 v1 σ1) fun v2 σ2 =>
    zrd σ2 20 12 x4 fun v3 =>
    if x2 < v2 then
      f_X2_nextToMeasure_J62 (fun x1 x2 x3 x4 σ => f_X2_nextToMeasure_L9 n x1 x2 x3 x4 σ) x4 v2 v3 σ2
    else
      if v2 = x2 then
        if v3 ≤ x3 then
          f_X2_nextToMeasure_L9 n x1 x2 x3 (x4 + 1) σ2
        else
          f_X2_nextToMeasure_J62 (fun x1 x2 x3 x4 σ => f_X2_nextToMeasure_L9 n x1 x2 x3 x4 σ) x4 v2 v3 σ2
      else
        f_X2_nextToMeasure_L9 n x1 x2 x3 (x4 + 1) σ2
def f_X2_nextToMeasure (σ : zS) : Option (Int32 × zS) :=
  f_X2_nextToMeasure_L9 zfu (-1) 2 0 0 σ
def f_X9_next (σ : zS) : Option (Int32 × zS) :=
  zbd (f_X2_nextToMeasure σ) fun v1 σ1 =>
  some (v1, σ1)
def f_X6_setCounts (x1 : Int32) (x2 : Int32) (x3 : Int32) (x4 : Int32) (σ : zS) : Option (Int32 × zS) :=
  zwr σ 39 90 ((x1 * 9) + x2) x3 fun σ1 =>
  zwr σ1 40 90 ((x1 * 9) + x2) x4 fun σ2 =>
  some (0, σ2)
def f_X9_counts (x1 : Int32) (x2 : Int32) (x3 : Int32) (x4 : Int32) (σ : zS) : Option (Int32 × zS) :=
  zbd (f_X9_isPlace x1 σ) fun v1 σ1 =>
  if v1 = 0 then
    some ((-2), σ1)
  else
    zbd (f_X3_isTold x2 σ1) fun v2 σ2 =>
    if v2 = 0 then
      some ((-2), σ2)
    else
      zbd (f_X9_isWithin x4 1 999 σ2) fun v3 σ3 =>
      if v3 = 0 then
        some ((-3), σ3)
      else
        zbd (f_X9_isWithin x3 0 x4 σ3) fun v4 σ4 =>
        if v4 = 0 then
          some ((-3), σ4)
        else
          zbd (f_X6_setCounts x1 x2 x3 x4 σ4) fun _ σ5 =>
          some (1, σ5)
def f_X6_gather_L27 (x1 : Int32) : Nat → Int32 → zS → Option (Int32 × zS)
  | 0, _, _ => none
  | n + 1, x2, σ =>
  if 10 ≤ x2 then
    some (0, σ)
  else
    zrd σ 40 90 ((x2 * 9) + x1) fun v1 =>
    if v1 ≤ 0 then
      f_X6_gather_L27 x1 n (x2 + 1) σ
    else
      zrd σ 37 10 x2 fun v2 =>
      if v2 = (-1) then
        f_X6_gather_L27 x1 n (x2 + 1) σ
      else
        zrd σ 39 90 ((x2 * 9) + x1) fun v3 =>
        zrd σ 40 90 ((x2 * 9) + x1) fun v4 =>
        zbd (f_X9_cut (1000 * v3) v4 σ) fun v5 σ5 =>
        zwr σ5 41 10 (σ 38 6) v5 fun σ6 =>
        zrd σ6 37 10 x2 fun v7 =>
        zwr σ6 42 10 (σ6 38 6) v7 fun σ8 =>
        zst σ8 38 6 ((σ8 38 6) + 1) fun σ9 =>
        f_X6_gather_L27 x1 n (x2 + 1) σ9
def f_X6_gather (x1 : Int32) (σ : zS) : Option (Int32 × zS) :=
  zrd σ 9 9 x1 fun v1 =>
  zbd (f_X4_measureMiles v1 1023 1 σ) fun _ σ2 =>
  zst σ2 38 6 0 fun σ3 =>
  f_X6_gather_L27 x1 zfu 0 σ3
def f_X6_shareByLaw (x0 : Int32) (x1 : Int32) (x2 : Int32) (σ : zS) : Option (Int32 × zS) :=
  if x0 = 0 then
    zbd (f_X9_cut x2 (10 * x1) σ) fun v1 σ1 =>
    some ((1000 : Int32) >>> ((zmin v1 10) &&& 31), σ1)
  else
    if x0 = 1 then
      zdv (x1 * x2) 10 fun v1 =>
      some (zmax 0 (1000 - v1), σ)
    else
      if (10 * x1) < x2 then
        some (100, σ)
      else
        some (900, σ)
def f_X6_missOf_L5 (x1 : Int32) (x2 : Int32) : Nat → Int32 → Int32 → zS → Option (Int32 × zS)
  | 0, _, _, _ => none
  | n + 1, x3, x4, σ =>
  if (σ 38 6) ≤ x4 then
    some (x3, σ)
  else
    zrd σ 41 10 x4 fun v1 =>
    zrd σ 42 10 x4 fun v2 =>
    zbd (f_X6_shareByLaw x1 x2 v2 σ) fun v3 σ3 =>
    f_X6_missOf_L5 x1 x2 n (x3 + (zabs (v1 - v3))) (x4 + 1) σ3
def f_X6_missOf (x1 : Int32) (x2 : Int32) (σ : zS) : Option (Int32 × zS) :=
  f_X6_missOf_L5 x1 x2 zfu 0 0 σ
def f_X9_miss (x1 : Int32) (x2 : Int32) (x3 : Int32) (σ : zS) : Option (Int32 × zS) :=
  zbd (f_X3_isTold x1 σ) fun v1 σ1 =>
  if v1 = 0 then
    some ((-2), σ1)
  else
    zbd (f_X9_isWithin x2 0 2 σ1) fun v2 σ2 =>
    if v2 = 0 then
      some ((-3), σ2)
    else
      zbd (f_X9_isWithin x3 1 99 σ2) fun v3 σ3 =>
      if v3 = 0 then
        some ((-3), σ3)
      else
        zbd (f_X6_gather x1 σ3) fun _ σ4 =>
        zbd (f_X6_missOf x2 x3 σ4) fun v5 σ5 =>
        some (v5, σ5)
def f_X6_best_J44 (k16 : Int32 → Int32 → Int32 → zS → Option (Int32 × zS)) (x1 : Int32) (x4 : Int32) (x5 : Int32) (x6 : Int32) (σ : zS) : Option (Int32 × zS) :=
  k16 ((100 * x4) + x5) x6 (x5 + 1) σ
def f_X6_best_L16 (k7 : Int32 → Int32 → Int32 → zS → Option (Int32 × zS)) (x1 : Int32) (x4 : Int32) : Nat → Int32 → Int32 → Int32 → zS → Option (Int32 × zS)
  | 0, _, _, _, _ => none
  | n + 1, x2, x3, x5, σ =>
  if 99 < x5 then
    k7 x2 x3 (x4 + 1) σ
  else
    zbd (f_X6_missOf x4 x5 σ) fun v1 σ1 =>
    if x3 = (-1) then
      f_X6_best_J44 (fun x2 x3 x5 σ => f_X6_best_L16 k7 x1 x4 n x2 x3 x5 σ) x1 x4 x5 v1 σ1
    else
      if x3 ≤ v1 then
        f_X6_best_L16 k7 x1 x4 n x2 x3 (x5 + 1) σ1
      else
        f_X6_best_J44 (fun x2 x3 x5 σ => f_X6_best_L16 k7 x1 x4 n x2 x3 x5 σ) x1 x4 x5 v1 σ1
def f_X6_best_L7 (x1 : Int32) : Nat → Int32 → Int32 → Int32 → zS → Option (Int32 × zS)
  | 0, _, _, _, _ => none
  | n + 1, x2, x3, x4, σ =>
  if 3 ≤ x4 then
    if x1 = 0 then
      some (x2, σ)
    else
      some (x3, σ)
  else
    f_X6_best_L16 (fun x2 x3 x4 σ => f_X6_best_L7 x1 n x2 x3 x4 σ) x1 x4 zfu x2 x3 1 σ
def f_X6_best (x1 : Int32) (σ : zS) : Option (Int32 × zS) :=
  f_X6_best_L7 x1 zfu 1 (-1) 0 σ
def f_X9_law (x1 : Int32) (x2 : Int32) (σ : zS) : Option (Int32 × zS) :=
  zbd (f_X3_isTold x1 σ) fun v1 σ1 =>
  if v1 = 0 then
    some ((-2), σ1)
  else
    zbd (f_X9_isWithin x2 0 1 σ1) fun v2 σ2 =>
    if v2 = 0 then
      some ((-3), σ2)
    else
      zbd (f_X6_gather x1 σ2) fun _ σ3 =>
      zbd (f_X6_best x2 σ3) fun v4 σ4 =>
      some (v4, σ4)
def f_X9_dated (x1 : Int32) (x2 : Int32) (σ : zS) : Option (Int32 × zS) :=
  zbd (f_X0_has x1 σ) fun v1 σ1 =>
  if v1 = 0 then
    some ((-2), σ1)
  else
    zbd (f_X9_isWithin x2 (-1) 9999 σ1) fun v2 σ2 =>
    if v2 = 0 then
      some ((-3), σ2)
    else
      zwr σ2 26 12 x1 x2 fun σ3 =>
      some (1, σ3)
def f_X1_leastFor (x0 : Int32) (x1 : Int32) (σ : zS) : Option (Int32 × zS) :=
  if x1 = 0 then
    some (1, σ)
  else
    zbd (f_X9_cut ((x0 - 1) * (x0 - 1)) ((9999 - x1) + 1) σ) fun v1 σ1 =>
    some (v1 + 1, σ1)
def f_X1_greatestFor (x0 : Int32) (x1 : Int32) (σ : zS) : Option (Int32 × zS) :=
  if x1 = 9999 then
    some (999, σ)
  else
    zbd (f_X9_cut ((x0 + 1) * (x0 + 1)) (9999 - x1) σ) fun v1 σ1 =>
    some (v1, σ1)
def f_X1_warmthLearnt_L13 (x1 : Int32) (x2 : Int32) : Nat → Int32 → Int32 → Int32 → Int32 → zS → Option (Int32 × zS)
  | 0, _, _, _, _, _ => none
  | n + 1, x3, x4, x5, x6, σ =>
  if (σ 17 0) ≤ x6 then
    if x5 = 0 then
      some ((-1), σ)
    else
      if x3 ≤ x4 then
        if x2 = 0 then
          some (x3, σ)
        else
          some (x4, σ)
      else
        some ((-1), σ)
  else
    zrd σ 18 12 x6 fun v1 =>
    if v1 = x1 then
      zrd σ 23 12 x6 fun v2 =>
      if v2 ≤ 0 then
        f_X1_warmthLearnt_L13 x1 x2 n x3 x4 x5 (x6 + 1) σ
      else
        zrd σ 26 12 x6 fun v3 =>
        if v3 = (-1) then
          f_X1_warmthLearnt_L13 x1 x2 n x3 x4 x5 (x6 + 1) σ
        else
          zrd σ 23 12 x6 fun v4 =>
          zrd σ 26 12 x6 fun v5 =>
          zbd (f_X1_leastFor v4 v5 σ) fun v6 σ6 =>
          zrd σ6 23 12 x6 fun v7 =>
          zrd σ6 26 12 x6 fun v8 =>
          zbd (f_X1_greatestFor v7 v8 σ6) fun v9 σ9 =>
          f_X1_warmthLearnt_L13 x1 x2 n (zmax x3 v6) (zmin x4 v9) 1 (x6 + 1) σ9
    else
      f_X1_warmthLearnt_L13 x1 x2 n x3 x4 x5 (x6 + 1) σ
def f_X1_warmthLearnt (x1 : Int32) (x2 : Int32) (σ : zS) : Option (Int32 × zS) :=
  f_X1_warmthLearnt_L13 x1 x2 zfu 1 999 0 0 σ
def f_X9_learnt (x1 : Int32) (x2 : Int32) (σ : zS) : Option (Int32 × zS) :=
  zbd (f_X9_isPlace x1 σ) fun v1 σ1 =>
  if v1 = 0 then
    some ((-2), σ1)
  else
    zbd (f_X9_isWithin x2 0 1 σ1) fun v2 σ2 =>
    if v2 = 0 then
      some ((-3), σ2)
    else
      zbd (f_X1_warmthLearnt x1 x2 σ2) fun v3 σ3 =>
      some (v3, σ3)
def f_X3_toldFlows_L4 : Nat → Int32 → Int32 → zS → Option (Int32 × zS)
  | 0, _, _, _ => none
  | n + 1, x1, x2, σ =>
  if 9 ≤ x2 then
    some (x1, σ)
  else
    zrd σ 8 9 x2 fun v1 =>
    if v1 = 0 then
      f_X3_toldFlows_L4 n (x1 + 0) (x2 + 1) σ
    else
      f_X3_toldFlows_L4 n (x1 + 1) (x2 + 1) σ
def f_X3_toldFlows (σ : zS) : Option (Int32 × zS) :=
  f_X3_toldFlows_L4 zfu 0 0 σ
def f_X0_strikes_L4 : Nat → Int32 → Int32 → zS → Option (Int32 × zS)
  | 0, _, _, _ => none
  | n + 1, x1, x2, σ =>
  if (σ 17 0) ≤ x2 then
    some (x1, σ)
  else
    zrd σ 25 12 x2 fun v1 =>
    if v1 = (-1) then
      f_X0_strikes_L4 n (x1 + 0) (x2 + 1) σ
    else
      f_X0_strikes_L4 n (x1 + 1) (x2 + 1) σ
def f_X0_strikes (σ : zS) : Option (Int32 × zS) :=
  f_X0_strikes_L4 zfu 0 0 σ
def f_X9_count (x1 : Int32) (σ : zS) : Option (Int32 × zS) :=
  if x1 = 0 then
    zbd (f_X3_toldFlows σ) fun v1 σ1 =>
    some (v1, σ1)
  else
  if x1 = 1 then
    some (σ 1 1, σ)
  else
  if x1 = 2 then
    some (σ 17 0, σ)
  else
  if x1 = 3 then
    some (σ 4 12, σ)
  else
  if x1 = 4 then
    some (σ 4 13, σ)
  else
  if x1 = 5 then
    zbd (f_X0_strikes σ) fun v1 σ1 =>
    some (v1, σ1)
  else
  some ((-3), σ)
