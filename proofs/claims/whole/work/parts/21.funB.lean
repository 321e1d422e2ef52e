def f_X10_in (x0 : Int32) (x1 : Int32) (x2 : Int32) (σ : zS) : Option (Int32 × zS) :=
  if x0 < x1 then
    some (0, σ)
  else
    if x2 < x0 then
      some (0, σ)
    else
      some (1, σ)
def f_X10_write_L31 (x1 : Int64) (x3 : Int32) : Nat → Int32 → zS → Option (Int32 × zS)
  | 0, _, _ => none
  | n + 1, x4, σ =>
  if x3 ≤ x4 then
    zst σ 0 6 ((σ 0 6) + x3) fun σ1 =>
    some (σ1 0 6, σ1)
  else
    zwr σ 4 200 ((σ 0 6) + x4) (Int64.toInt32 ((x1 >>> (Int32.toInt64 (8 * x4) &&& 63)) &&& ((255 : Int64)))) fun σ1 =>
    f_X10_write_L31 x1 x3 n (x4 + 1) σ1
def f_X10_write (x1 : Int64) (x3 : Int32) (σ : zS) : Option (Int32 × zS) :=
  zbd (f_X10_in x3 1 8 σ) fun v1 σ1 =>
  if v1 = 0 then
    some ((-3), σ1)
  else
    if ((σ1 0 6) + x3) ≤ 200 then
      f_X10_write_L31 x1 x3 zfu 0 σ1
    else
      some ((-5), σ1)
def f_X10_erase (σ : zS) : Option (Int32 × zS) :=
  zst σ 0 6 0 fun σ1 =>
  some (σ 0 6, σ1)
def f_X10_fails (σ : zS) : Option (Int32 × zS) :=
  zst σ 0 13 (σ 0 9) fun σ1 =>
  some (0, σ1)
def f_X10_nextToken_J381 (s0 : Int64) (σ : zS) : Option (Int32 × zS) :=
  zsl σ 0 10 s0 fun σ1 =>
  zst σ1 0 8 ((σ1 0 8) + 1) fun σ2 =>
  some (0, σ2)
def f_X10_nextToken_J333 (σ : zS) : Option (Int32 × zS) :=
  if (σ 0 11) ≤ 4 then
    zsl σ 0 10 (((-1) : Int64)) fun σ1 =>
    some (0, σ1)
  else
    zsl σ 0 10 (((-4) : Int64)) fun σ1 =>
    some (0, σ1)
def f_X10_nextToken_J307 (k241 : zS → Option (Int32 × zS)) (s0 : Int32) (σ : zS) : Option (Int32 × zS) :=
  zst σ 0 12 s0 fun σ1 =>
  zst σ1 0 11 ((σ1 0 11) + 1) fun σ2 =>
  zst σ2 0 8 ((σ2 0 8) + 1) fun σ3 =>
  k241 σ3
def f_X10_nextToken_L241 : Nat → zS → Option (Int32 × zS)
  | 0, _ => none
  | n + 1, σ =>
  if (σ 0 6) ≤ (σ 0 8) then
    f_X10_nextToken_J333 σ
  else
    zrd σ 4 200 (σ 0 8) fun v1 =>
    zbd (f_X10_in v1 48 57 σ) fun v2 σ2 =>
    if v2 = 0 then
      f_X10_nextToken_J333 σ2
    else
      if 4 ≤ (σ2 0 11) then
        f_X10_nextToken_J307 (fun σ => f_X10_nextToken_L241 n σ) (σ2 0 12) σ2
      else
        zrd σ2 4 200 (σ2 0 8) fun v3 =>
        f_X10_nextToken_J307 (fun σ => f_X10_nextToken_L241 n σ) (((10 * (σ2 0 12)) + v3) - 48) σ2
def f_X10_nextToken_J191 (σ : zS) : Option (Int32 × zS) :=
  if ((σ 0 8) - (σ 0 9)) ≤ 9 then
    zsl σ 0 10 (zlg (σ 0 10) (σ 0 1010)) fun σ1 =>
    some (0, σ1)
  else
    zsl σ 0 10 (((-4) : Int64)) fun σ1 =>
    some (0, σ1)
def f_X10_nextToken_J175 (k101 : zS → Option (Int32 × zS)) (s0 : Int64) (σ : zS) : Option (Int32 × zS) :=
  zsl σ 0 10 s0 fun σ1 =>
  zst σ1 0 8 ((σ1 0 8) + 1) fun σ2 =>
  k101 σ2
def f_X10_nextToken_L101 : Nat → zS → Option (Int32 × zS)
  | 0, _ => none
  | n + 1, σ =>
  if (σ 0 6) ≤ (σ 0 8) then
    f_X10_nextToken_J191 σ
  else
    zrd σ 4 200 (σ 0 8) fun v1 =>
    zbd (f_X10_in v1 97 122 σ) fun v2 σ2 =>
    if v2 = 0 then
      f_X10_nextToken_J191 σ2
    else
      if 9 ≤ ((σ2 0 8) - (σ2 0 9)) then
        f_X10_nextToken_J175 (fun σ => f_X10_nextToken_L101 n σ) (((-4) : Int64)) σ2
      else
        zrd σ2 4 200 (σ2 0 8) fun v3 =>
        f_X10_nextToken_J175 (fun σ => f_X10_nextToken_L101 n σ) (((((27 : Int64)) * (zlg (σ2 0 10) (σ2 0 1010))) + (Int32.toInt64 v3)) - ((96 : Int64))) σ2
def f_X10_nextToken_J38 (σ : zS) : Option (Int32 × zS) :=
  zst σ 0 9 (σ 0 8) fun σ1 =>
  zst σ1 0 11 0 fun σ2 =>
  zst σ2 0 12 0 fun σ3 =>
  if (σ3 0 8) = (σ3 0 6) then
    zsl σ3 0 10 (((-2) : Int64)) fun σ4 =>
    some (0, σ4)
  else
    zrd σ3 4 200 (σ3 0 8) fun v4 =>
    zbd (f_X10_in v4 97 122 σ3) fun v5 σ5 =>
    if v5 = 0 then
      zrd σ5 4 200 (σ5 0 8) fun v6 =>
      zbd (f_X10_in v6 48 57 σ5) fun v7 σ7 =>
      if v7 = 0 then
        zrd σ7 4 200 (σ7 0 8) fun v8 =>
        if v8 = 59 then
          f_X10_nextToken_J381 (((-3) : Int64)) σ7
        else
          f_X10_nextToken_J381 (((-4) : Int64)) σ7
      else
        f_X10_nextToken_L241 zfu σ7
    else
      zsl σ5 0 10 ((0 : Int64)) fun σ6 =>
      f_X10_nextToken_L101 zfu σ6
def f_X10_nextToken_L0 : Nat → zS → Option (Int32 × zS)
  | 0, _ => none
  | n + 1, σ =>
  if (σ 0 6) ≤ (σ 0 8) then
    f_X10_nextToken_J38 σ
  else
    zrd σ 4 200 (σ 0 8) fun v1 =>
    if v1 = 32 then
      zst σ 0 8 ((σ 0 8) + 1) fun σ2 =>
      f_X10_nextToken_L0 n σ2
    else
      f_X10_nextToken_J38 σ
def f_X10_nextToken (σ : zS) : Option (Int32 × zS) :=
  f_X10_nextToken_L0 zfu σ
def f_X10_isNumber (x1 : Int32) (x2 : Int32) (x3 : Int32) (σ : zS) : Option (Int32 × zS) :=
  zbd (f_X10_nextToken σ) fun _ σ1 =>
  if (lg_cmp (zlg (σ1 0 10) (σ1 0 1010)) (((-1) : Int64))) = 0 then
    zbd (f_X10_in (σ1 0 12) x2 x3 σ1) fun v2 σ2 =>
    if v2 = 0 then
      zbd (f_X10_fails σ2) fun v3 σ3 =>
      zrb v3 σ3
    else
      zwr σ2 5 64 x1 (σ2 0 12) fun σ3 =>
      some (1, σ3)
  else
    zbd (f_X10_fails σ1) fun v2 σ2 =>
    zrb v2 σ2
def f_X10_isWay (x1 : Int32) (σ : zS) : Option (Int32 × zS) :=
  zbd (f_X10_isNumber (x1 + 1) 0 9 σ) fun v1 σ1 =>
  if v1 = 0 then
    some (0, σ1)
  else
    zbd (f_X10_isNumber (x1 + 2) 0 9 σ1) fun v2 σ2 =>
    if v2 = 0 then
      some (0, σ2)
    else
      zrd σ2 5 64 (x1 + 1) fun v3 =>
      zrd σ2 5 64 (x1 + 2) fun v4 =>
      if v3 = v4 then
        zbd (f_X10_fails σ2) fun v5 σ5 =>
        zrb v5 σ5
      else
        zbd (f_X10_isNumber (x1 + 3) 0 999 σ2) fun v5 σ5 =>
        zrb v5 σ5
def f_X10_isLine_J100 (x1 : Int32) (s0 : Int32) (s1 : Int32) (σ : zS) : Option (Int32 × zS) :=
  zwr σ 5 64 s1 s0 fun σ1 =>
  zrd σ1 5 64 x1 fun v2 =>
  if v2 = 0 then
    zbd (f_X10_isNumber (x1 + 1) 0 9 σ1) fun v3 σ3 =>
    if v3 = 0 then
      some (0, σ3)
    else
      zbd (f_X10_isNumber (x1 + 2) 0 9999 σ3) fun v4 σ4 =>
      if v4 = 0 then
        some (0, σ4)
      else
        zrd σ4 5 64 (x1 + 2) fun v5 =>
        zbd (f_X10_isNumber (x1 + 3) v5 9999 σ4) fun v6 σ6 =>
        if v6 = 0 then
          some (0, σ6)
        else
          zbd (f_X10_isNumber (x1 + 4) 1 999 σ6) fun v7 σ7 =>
          if v7 = 0 then
            some (0, σ7)
          else
            some (1, σ7)
  else
  if v2 = 1 then
    zbd (f_X10_isNumber (x1 + 1) 0 8 σ1) fun v3 σ3 =>
    if v3 = 0 then
      some (0, σ3)
    else
      zbd (f_X10_isNumber (x1 + 2) 0 9 σ3) fun v4 σ4 =>
      if v4 = 0 then
        some (0, σ4)
      else
        zbd (f_X10_isNumber (x1 + 3) 0 9999 σ4) fun v5 σ5 =>
        if v5 = 0 then
          some (0, σ5)
        else
          zbd (f_X10_isNumber (x1 + 4) 0 999 σ5) fun v6 σ6 =>
          if v6 = 0 then
            some (0, σ6)
          else
            zbd (f_X10_isNumber (x1 + 5) 0 999 σ6) fun v7 σ7 =>
            if v7 = 0 then
              some (0, σ7)
            else
              zbd (f_X10_isNumber (x1 + 6) 0 999 σ7) fun v8 σ8 =>
              if v8 = 0 then
                some (0, σ8)
              else
                zbd (f_X10_isNumber (x1 + 7) 0 99 σ8) fun v9 σ9 =>
                if v9 = 0 then
                  some (0, σ9)
                else
                  some (1, σ9)
  else
  if v2 = 2 then
    zbd (f_X10_isWay x1 σ1) fun v3 σ3 =>
    zrb v3 σ3
  else
  if v2 = 3 then
    zbd (f_X10_isWay x1 σ1) fun v3 σ3 =>
    zrb v3 σ3
  else
  if v2 = 4 then
    zbd (f_X10_isNumber (x1 + 1) 0 999 σ1) fun v3 σ3 =>
    zrb v3 σ3
  else
  if v2 = 5 then
    zbd (f_X10_isNumber (x1 + 1) 0 999 σ1) fun v3 σ3 =>
    zrb v3 σ3
  else
  zbd (f_X10_fails σ1) fun v3 σ3 =>
  zrb v3 σ3
def f_X10_isLine (x1 : Int32) (σ : zS) : Option (Int32 × zS) :=
  zbd (f_X10_nextToken σ) fun _ σ1 =>
  if (lg_cmp (zlg (σ1 0 10) (σ1 0 1010)) ((8740067 : Int64))) = 0 then
    f_X10_isLine_J100 x1 0 x1 σ1
  else
    if (lg_cmp (zlg (σ1 0 10) (σ1 0 1010)) ((127274 : Int64))) = 0 then
      f_X10_isLine_J100 x1 1 x1 σ1
    else
      if (lg_cmp (zlg (σ1 0 10) (σ1 0 1010)) ((237307 : Int64))) = 0 then
        f_X10_isLine_J100 x1 2 x1 σ1
      else
        if (lg_cmp (zlg (σ1 0 10) (σ1 0 1010)) ((50348 : Int64))) = 0 then
          f_X10_isLine_J100 x1 3 x1 σ1
        else
          if (lg_cmp (zlg (σ1 0 10) (σ1 0 1010)) ((279252 : Int64))) = 0 then
            f_X10_isLine_J100 x1 4 x1 σ1
          else
            if (lg_cmp (zlg (σ1 0 10) (σ1 0 1010)) ((4419 : Int64))) = 0 then
              f_X10_isLine_J100 x1 5 x1 σ1
            else
              f_X10_isLine_J100 x1 (-1) x1 σ1
def f_X10_isRead_L12 : Nat → Int32 → zS → Option (Int32 × zS)
  | 0, _, _ => none
  | n + 1, x1, σ =>
  if x1 = 0 then
    if (lg_cmp (zlg (σ 0 10) (σ 0 1010)) (((-2) : Int64))) = 0 then
      some (1, σ)
    else
      zbd (f_X10_fails σ) fun v1 σ1 =>
      if v1 = 0 then
        some (0, σ1)
      else
        some (1, σ1)
  else
    zbd (f_X10_isLine (8 * (σ 0 14)) σ) fun v1 σ1 =>
    if v1 = 0 then
      some (0, σ1)
    else
      zst σ1 0 14 ((σ1 0 14) + 1) fun σ2 =>
      zbd (f_X10_nextToken σ2) fun _ σ3 =>
      if (lg_cmp (zlg (σ3 0 10) (σ3 0 1010)) (((-3) : Int64))) = 0 then
        if 8 ≤ (σ3 0 14) then
          f_X10_isRead_L12 n 0 σ3
        else
          f_X10_isRead_L12 n 1 σ3
      else
        f_X10_isRead_L12 n 0 σ3
def f_X10_isRead (σ : zS) : Option (Int32 × zS) :=
  zst σ 0 8 0 fun σ1 =>
  zst σ1 0 14 0 fun σ2 =>
  f_X10_isRead_L12 zfu 1 σ2
def f_X10_fault (σ : zS) : Option (Int32 × zS) :=
  zbd (f_X10_isRead σ) fun v1 σ1 =>
  if v1 = 0 then
    some (σ1 0 13, σ1)
  else
    some ((-1), σ1)
def f_X10_doLine_L63 (x1 : Int32) (x2 : Int32) : Nat → Int32 → zS → Option (Int32 × zS)
  | 0, _, _ => none
  | n + 1, x4, σ =>
  if 3 ≤ x4 then
    some (0, σ)
  else
    zrd σ 5 64 ((x1 + 2) + x4) fun v1 =>
    zwr σ 1 30 ((3 * x2) + x4) v1 fun σ2 =>
    f_X10_doLine_L63 x1 x2 n (x4 + 1) σ2
def f_X10_doLine_L115 (x1 : Int32) (x2 : Int32) : Nat → Int32 → zS → Option (Int32 × zS)
  | 0, _, _ => none
  | n + 1, x4, σ =>
  if 6 ≤ x4 then
    some (0, σ)
  else
    zrd σ 5 64 ((x1 + 2) + x4) fun v1 =>
    zwr σ 3 54 ((6 * x2) + x4) v1 fun σ2 =>
    f_X10_doLine_L115 x1 x2 n (x4 + 1) σ2
def f_X10_doLine (x1 : Int32) (σ : zS) : Option (Int32 × zS) :=
  zrd σ 5 64 (x1 + 1) fun v1 =>
  zrd σ 5 64 (x1 + 2) fun v2 =>
  zrd σ 5 64 x1 fun v3 =>
  if v3 = 0 then
    f_X10_doLine_L63 x1 v1 zfu 0 σ
  else
  if v3 = 1 then
    zst σ 0 3 ((σ 0 3) ||| ((1 : Int32) <<< (v1 &&& 31))) fun σ4 =>
    f_X10_doLine_L115 x1 v1 zfu 0 σ4
  else
  if v3 = 2 then
    zrd σ 5 64 x1 fun v4 =>
    zrd σ 5 64 (x1 + 3) fun v5 =>
    zwr σ 2 200 (((100 * (v4 - 2)) + (10 * v1)) + v2) v5 fun σ6 =>
    zrd σ6 5 64 x1 fun v7 =>
    zrd σ6 5 64 (x1 + 3) fun v8 =>
    zwr σ6 2 200 (((100 * (v7 - 2)) + (10 * v2)) + v1) v8 fun σ9 =>
    some (0, σ9)
  else
  if v3 = 3 then
    zrd σ 5 64 x1 fun v4 =>
    zrd σ 5 64 (x1 + 3) fun v5 =>
    zwr σ 2 200 (((100 * (v4 - 2)) + (10 * v1)) + v2) v5 fun σ6 =>
    zrd σ6 5 64 x1 fun v7 =>
    zrd σ6 5 64 (x1 + 3) fun v8 =>
    zwr σ6 2 200 (((100 * (v7 - 2)) + (10 * v2)) + v1) v8 fun σ9 =>
    some (0, σ9)
  else
  if v3 = 4 then
    zst σ 0 4 v1 fun σ4 =>
    some (0, σ4)
  else
  zst σ 0 5 v1 fun σ4 =>
  some (0, σ4)
def f_X10_land_L12 : Nat → Int32 → zS → Option (Int32 × zS)
  | 0, _, _ => none
  | n + 1, x1, σ =>
  if (σ 0 14) ≤ x1 then
    zst σ 0 6 0 fun σ1 =>
    some (σ1 0 14, σ1)
  else
    zbd (f_X10_doLine (8 * x1) σ) fun _ σ1 =>
    f_X10_land_L12 n (x1 + 1) σ1
def f_X10_land (σ : zS) : Option (Int32 × zS) :=
  zbd (f_X10_isRead σ) fun v1 σ1 =>
  if v1 = 0 then
    some ((-4), σ1)
  else
    f_X10_land_L12 zfu 0 σ1
def f_X10_isPlace (x0 : Int32) (σ : zS) : Option (Int32 × zS) :=
  zbd (f_X10_in x0 0 9 σ) fun v1 σ1 =>
  zrb v1 σ1
def f_X10_place (x1 : Int32) (x2 : Int32) (σ : zS) : Option (Int32 × zS) :=
  zbd (f_X10_isPlace x1 σ) fun v1 σ1 =>
  if v1 = 0 then
    some ((-2), σ1)
  else
    zbd (f_X10_in x2 0 2 σ1) fun v2 σ2 =>
    if v2 = 0 then
      some ((-3), σ2)
    else
      zrd σ2 1 30 ((3 * x1) + x2) fun v3 =>
      some (v3, σ2)
def f_X10_isFlow (x1 : Int32) (σ : zS) : Option (Int32 × zS) :=
  zbd (f_X10_in x1 0 8 σ) fun v1 σ1 =>
  if v1 = 0 then
    some (0, σ1)
  else
    if (((σ1 0 3) >>> (x1 &&& 31)) &&& 1) = 1 then
      some (1, σ1)
    else
      some (0, σ1)
def f_X10_flow (x1 : Int32) (x2 : Int32) (σ : zS) : Option (Int32 × zS) :=
  zbd (f_X10_isFlow x1 σ) fun v1 σ1 =>
  if v1 = 0 then
    some ((-2), σ1)
  else
    zbd (f_X10_in x2 0 5 σ1) fun v2 σ2 =>
    if v2 = 0 then
      some ((-3), σ2)
    else
      zrd σ2 3 54 ((6 * x1) + x2) fun v3 =>
      some (v3, σ2)
def f_X10_way (x1 : Int32) (x2 : Int32) (x3 : Int32) (σ : zS) : Option (Int32 × zS) :=
  zbd (f_X10_isPlace x1 σ) fun v1 σ1 =>
  if v1 = 0 then
    some ((-2), σ1)
  else
    zbd (f_X10_isPlace x2 σ1) fun v2 σ2 =>
    if v2 = 0 then
      some ((-2), σ2)
    else
      if x1 = x2 then
        some ((-2), σ2)
      else
        zbd (f_X10_in x3 0 1 σ2) fun v3 σ3 =>
        if v3 = 0 then
          some ((-3), σ3)
        else
          zrd σ3 2 200 (((100 * x3) + (10 * x1)) + x2) fun v4 =>
          some (v4, σ3)
def f_X10_areNumbers (x0 : Int32) (σ : zS) : Option (Int32 × zS) :=
  if 1000 ≤ (x0 &&& 1023) then
    some (0, σ)
  else
    if 1000 ≤ ((x0 >>> ((10 : Int32) &&& 31)) &&& 1023) then
      some (0, σ)
    else
      if 1000 ≤ ((x0 >>> ((20 : Int32) &&& 31)) &&& 1023) then
        some (0, σ)
      else
        some (1, σ)
def f_X10_layNumbers_L3 (x1 : Int32) (x2 : Int32) (x3 : Int32) : Nat → Int32 → zS → Option (Int32 × zS)
  | 0, _, _ => none
  | n + 1, x4, σ =>
  if 3 ≤ x4 then
    zwr σ 6 132 ((11 * x1) + 4) x3 fun σ1 =>
    some (0, σ1)
  else
    zwr σ 6 132 (((11 * x1) + 1) + x4) ((x2 >>> ((10 * x4) &&& 31)) &&& 1023) fun σ1 =>
    f_X10_layNumbers_L3 x1 x2 x3 n (x4 + 1) σ1
def f_X10_layNumbers (x1 : Int32) (x2 : Int32) (x3 : Int32) (σ : zS) : Option (Int32 × zS) :=
  f_X10_layNumbers_L3 x1 x2 x3 zfu 0 σ
def f_X10_blade (x1 : Int32) (x2 : Int32) (x3 : Int32) (x4 : Int32) (x5 : Int32) (σ : zS) : Option (Int32 × zS) :=
  zbd (f_X10_isPlace x1 σ) fun v1 σ1 =>
  if v1 = 0 then
    some ((-2), σ1)
  else
    zbd (f_X10_areNumbers x2 σ1) fun v2 σ2 =>
    if v2 = 0 then
      some ((-3), σ2)
    else
      zbd (f_X10_in x3 1 99 σ2) fun v3 σ3 =>
      if v3 = 0 then
        some ((-3), σ3)
      else
        zbd (f_X10_in x4 1 999 σ3) fun v4 σ4 =>
        if v4 = 0 then
          some ((-3), σ4)
        else
          zbd (f_X10_in x5 0 99 σ4) fun v5 σ5 =>
          if v5 = 0 then
            some ((-3), σ5)
          else
            if (σ5 0 16) = 12 then
              some ((-5), σ5)
            else
              zwr σ5 6 132 (11 * (σ5 0 16)) x1 fun σ6 =>
              zbd (f_X10_layNumbers (σ6 0 16) x2 x3 σ6) fun _ σ7 =>
              zwr σ7 6 132 ((11 * (σ5 0 16)) + 5) x4 fun σ8 =>
              zwr σ8 6 132 ((11 * (σ5 0 16)) + 6) x5 fun σ9 =>
              zwr σ9 6 132 ((11 * (σ5 0 16)) + 7) 0 fun σ10 =>
              zwr σ10 6 132 ((11 * (σ5 0 16)) + 8) 0 fun σ11 =>
              zwr σ11 6 132 ((11 * (σ5 0 16)) + 9) (-1) fun σ12 =>
              zwr σ12 6 132 ((11 * (σ5 0 16)) + 10) (-1) fun σ13 =>
              zst σ13 0 16 ((σ13 0 16) + 1) fun σ14 =>
              some ((σ14 0 16) - 1, σ14)
def f_X10_isBlade (x1 : Int32) (σ : zS) : Option (Int32 × zS) :=
  zbd (f_X10_in x1 0 ((σ 0 16) - 1) σ) fun v1 σ1 =>
  zrb v1 σ1
def f_X10_rim_J45 (x1 : Int32) (x2 : Int32) (x3 : Int32) (σ : zS) : Option (Int32 × zS) :=
  zwr σ 6 132 ((11 * x1) + 7) x2 fun σ1 =>
  zwr σ1 6 132 ((11 * x1) + 8) x3 fun σ2 =>
  some (1, σ2)
def f_X10_rim (x1 : Int32) (x2 : Int32) (x3 : Int32) (σ : zS) : Option (Int32 × zS) :=
  zbd (f_X10_isBlade x1 σ) fun v1 σ1 =>
  if v1 = 0 then
    some ((-2), σ1)
  else
    zbd (f_X10_in x2 0 999 σ1) fun v2 σ2 =>
    if v2 = 0 then
      some ((-3), σ2)
    else
      zbd (f_X10_in x3 0 999 σ2) fun v3 σ3 =>
      if v3 = 0 then
        some ((-3), σ3)
      else
        if x3 ≤ 0 then
          f_X10_rim_J45 x1 x2 x3 σ3
        else
          if x3 < x2 then
            f_X10_rim_J45 x1 x2 x3 σ3
          else
            some ((-3), σ3)
def f_X10_at (x1 : Int32) (x2 : Int32) (σ : zS) : Option (Int32 × zS) :=
  zrd σ 6 132 ((11 * x1) + x2) fun v1 =>
  some (v1, σ)
def f_X10_measure (x1 : Int32) (x2 : Int32) (x3 : Int32) (σ : zS) : Option (Int32 × zS) :=
  zbd (f_X10_isBlade x1 σ) fun v1 σ1 =>
  if v1 = 0 then
    some ((-2), σ1)
  else
    zbd (f_X10_areNumbers x2 σ1) fun v2 σ2 =>
    if v2 = 0 then
      some ((-3), σ2)
    else
      zbd (f_X10_in x3 1 99 σ2) fun v3 σ3 =>
      if v3 = 0 then
        some ((-3), σ3)
      else
        zbd (f_X10_at x1 4 σ3) fun v4 σ4 =>
        zbd (f_X10_layNumbers x1 x2 x3 σ4) fun _ σ5 =>
        some (v4, σ5)
def f_X10_of (x1 : Int32) (x2 : Int32) (σ : zS) : Option (Int32 × zS) :=
  zbd (f_X10_isBlade x1 σ) fun v1 σ1 =>
  if v1 = 0 then
    some ((-2), σ1)
  else
    zbd (f_X10_in x2 0 9 σ1) fun v2 σ2 =>
    if v2 = 0 then
      some ((-3), σ2)
    else
      zbd (f_X10_at x1 x2 σ2) fun v3 σ3 =>
      some (v3, σ3)
def f_X10_offOf_J52 (k5 : Int32 → Int32 → zS → Option (Int32 × zS)) (x1 : Int32) (x2 : Int32) (x3 : Int32) (x4 : Int32) (s0 : Int32) (s1 : Int32) (σ : zS) : Option (Int32 × zS) :=
  zbd (f_X10_at x1 4 σ) fun v1 σ1 =>
  zrd σ1 3 54 ((6 * x2) + 5) fun v2 =>
  zdv (s1 * s0) (v1 + v2) fun v3 =>
  if v3 ≤ x3 then
    k5 x3 (x4 + 1) σ1
  else
    k5 v3 (x4 + 1) σ1
def f_X10_offOf_L5 (x1 : Int32) (x2 : Int32) : Nat → Int32 → Int32 → zS → Option (Int32 × zS)
  | 0, _, _, _ => none
  | n + 1, x3, x4, σ =>
  if 3 ≤ x4 then
    some (x3, σ)
  else
    zbd (f_X10_at x1 (1 + x4) σ) fun v1 σ1 =>
    zrd σ1 3 54 (((6 * x2) + 2) + x4) fun v2 =>
    if 0 ≤ (v1 - v2) then
      f_X10_offOf_J52 (fun x3 x4 σ => f_X10_offOf_L5 x1 x2 n x3 x4 σ) x1 x2 x3 x4 (v1 - v2) 10 σ1
    else
      f_X10_offOf_J52 (fun x3 x4 σ => f_X10_offOf_L5 x1 x2 n x3 x4 σ) x1 x2 x3 x4 (-(v1 - v2)) 10 σ1
def f_X10_offOf (x1 : Int32) (x2 : Int32) (σ : zS) : Option (Int32 × zS) :=
  f_X10_offOf_L5 x1 x2 zfu 0 0 σ
def f_X10_off (x1 : Int32) (x2 : Int32) (σ : zS) : Option (Int32 × zS) :=
  zbd (f_X10_isBlade x1 σ) fun v1 σ1 =>
  if v1 = 0 then
    some ((-2), σ1)
  else
    zbd (f_X10_isFlow x2 σ1) fun v2 σ2 =>
    if v2 = 0 then
      some ((-2), σ2)
    else
      zbd (f_X10_offOf x1 x2 σ2) fun v3 σ3 =>
      some (v3, σ3)
def f_X10_canBe_L4 (x1 : Int32) : Nat → Int32 → Int32 → zS → Option (Int32 × zS)
  | 0, _, _, _ => none
  | n + 1, x2, x3, σ =>
  if 9 ≤ x3 then
    some (x2, σ)
  else
    zbd (f_X10_isFlow x3 σ) fun v1 σ1 =>
    if v1 = 0 then
      f_X10_canBe_L4 x1 n (x2 ||| 0) (x3 + 1) σ1
    else
      zbd (f_X10_offOf x1 x3 σ1) fun v2 σ2 =>
      if (σ2 0 4) < v2 then
        f_X10_canBe_L4 x1 n (x2 ||| 0) (x3 + 1) σ2
      else
        f_X10_canBe_L4 x1 n (x2 ||| ((1 : Int32) <<< (x3 &&& 31))) (x3 + 1) σ2
def f_X10_canBe (x1 : Int32) (σ : zS) : Option (Int32 × zS) :=
  f_X10_canBe_L4 x1 zfu 0 0 σ
def f_X10_can (x1 : Int32) (σ : zS) : Option (Int32 × zS) :=
  zbd (f_X10_isBlade x1 σ) fun v1 σ1 =>
  if v1 = 0 then
    some ((-2), σ1)
  else
    zbd (f_X10_canBe x1 σ1) fun v2 σ2 =>
    some (v2, σ2)
def f_X10_bits_L4 (x0 : Int32) : Nat → Int32 → Int32 → zS → Option (Int32 × zS)
  | 0, _, _, _ => none
  | n + 1, x1, x2, σ =>
  if 12 ≤ x2 then
    some (x1, σ)
  else
    f_X10_bits_L4 x0 n (x1 + ((x0 >>> (x2 &&& 31)) &&& 1)) (x2 + 1) σ
def f_X10_bits (x0 : Int32) (σ : zS) : Option (Int32 × zS) :=
  f_X10_bits_L4 x0 zfu 0 0 σ
def f_X10_named_L32 (x1 : Int32) (x2 : Int32) : Nat → Int32 → Int32 → zS → Option (Int32 × zS)
  | 0, _, _, _ => none
  | n + 1, x3, x4, σ =>
  if 9 ≤ x4 then
    some (x3, σ)
  else
    if ((x2 >>> (x4 &&& 31)) &&& 1) = 1 then
      f_X10_named_L32 x1 x2 n x4 (x4 + 1) σ
    else
      zbd (f_X10_isFlow x4 σ) fun v1 σ1 =>
      if v1 = 0 then
        f_X10_named_L32 x1 x2 n x3 (x4 + 1) σ1
      else
        zbd (f_X10_offOf x1 x4 σ1) fun v2 σ2 =>
        if (σ2 0 5) ≤ v2 then
          f_X10_named_L32 x1 x2 n x3 (x4 + 1) σ2
        else
          some ((-1), σ2)
def f_X10_named (x1 : Int32) (σ : zS) : Option (Int32 × zS) :=
  zbd (f_X10_isBlade x1 σ) fun v1 σ1 =>
  if v1 = 0 then
    some ((-2), σ1)
  else
    zbd (f_X10_canBe x1 σ1) fun v2 σ2 =>
    zbd (f_X10_bits v2 σ2) fun v3 σ3 =>
    if v3 = 1 then
      f_X10_named_L32 x1 v2 zfu (-1) 0 σ3
    else
      some ((-1), σ3)
def f_X10_isFrom_J29 (x3 : Int32) (σ : zS) : Option (Int32 × zS) :=
  if x3 = (-1) then
    some (0, σ)
  else
    some (1, σ)
def f_X10_isFrom_L8 (x2 : Int32) : Nat → Int32 → zS → Option (Int32 × zS)
  | 0, _, _ => none
  | n + 1, x3, σ =>
  if x3 = (-1) then
    f_X10_isFrom_J29 x3 σ
  else
    if x3 = x2 then
      f_X10_isFrom_J29 x3 σ
    else
      zbd (f_X10_at x3 9 σ) fun v1 σ1 =>
      f_X10_isFrom_L8 x2 n v1 σ1
def f_X10_isFrom (x1 : Int32) (x2 : Int32) (σ : zS) : Option (Int32 × zS) :=
  zbd (f_X10_at x1 9 σ) fun v1 σ1 =>
  f_X10_isFrom_L8 x2 zfu v1 σ1
def f_X10_strike (x1 : Int32) (x2 : Int32) (σ : zS) : Option (Int32 × zS) :=
  zbd (f_X10_isBlade x1 σ) fun v1 σ1 =>
  if v1 = 0 then
    some ((-2), σ1)
  else
    zbd (f_X10_isBlade x2 σ1) fun v2 σ2 =>
    if v2 = 0 then
      some ((-2), σ2)
    else
      if x1 = x2 then
        some ((-2), σ2)
      else
        zbd (f_X10_at x1 9 σ2) fun v3 σ3 =>
        if v3 = (-1) then
          zbd (f_X10_isFrom x2 x1 σ3) fun v4 σ4 =>
          if v4 = 0 then
            zwr σ4 6 132 ((11 * x1) + 9) x2 fun σ5 =>
            some (1, σ5)
          else
            some ((-4), σ4)
        else
          some ((-4), σ3)
def f_X10_undo (x1 : Int32) (σ : zS) : Option (Int32 × zS) :=
  zbd (f_X10_isBlade x1 σ) fun v1 σ1 =>
  if v1 = 0 then
    some ((-2), σ1)
  else
    zbd (f_X10_at x1 9 σ1) fun v2 σ2 =>
    zwr σ2 6 132 ((11 * x1) + 9) (-1) fun σ3 =>
    some (v2, σ3)
def f_X10_isReused (x1 : Int32) (σ : zS) : Option (Int32 × zS) :=
  zbd (f_X10_at x1 8 σ) fun v1 σ1 =>
  if v1 ≤ 0 then
    some (0, σ1)
  else
    some (1, σ1)
def f_X10_greater (x0 : Int32) (x1 : Int32) (σ : zS) : Option (Int32 × zS) :=
  if x0 ≤ x1 then
    some (x1, σ)
  else
    some (x0, σ)
def f_X10_lesser (x0 : Int32) (x1 : Int32) (σ : zS) : Option (Int32 × zS) :=
  if x1 ≤ x0 then
    some (x1, σ)
  else
    some (x0, σ)
def f_X10_isBelow (x1 : Int32) (x2 : Int32) (σ : zS) : Option (Int32 × zS) :=
  zbd (f_X10_at x1 0 σ) fun v1 σ1 =>
  zbd (f_X10_at x2 0 σ1) fun v2 σ2 =>
  if v1 = v2 then
    zbd (f_X10_at x1 6 σ2) fun v3 σ3 =>
    zbd (f_X10_at x2 6 σ3) fun v4 σ4 =>
    if v3 ≤ v4 then
      some (0, σ4)
    else
      some (1, σ4)
  else
    some (0, σ2)
def f_X10_goRound_J73 (k12 : Int32 → zS → Option (Int32 × zS)) (x1 : Int32) (x2 : Int32) (σ : zS) : Option (Int32 × zS) :=
  zbd (f_X10_isBelow x1 x2 σ) fun v1 σ1 =>
  if v1 = 0 then
    k12 (x2 + 1) σ1
  else
    zrd σ1 11 12 x2 fun v2 =>
    zrd σ1 11 12 x1 fun v3 =>
    zbd (f_X10_greater v2 v3 σ1) fun v4 σ4 =>
    zwr σ4 11 12 x2 v4 fun σ5 =>
    zrd σ5 12 12 x1 fun v6 =>
    zrd σ5 12 12 x2 fun v7 =>
    zbd (f_X10_lesser v6 v7 σ5) fun v8 σ8 =>
    zwr σ8 12 12 x1 v8 fun σ9 =>
    k12 (x2 + 1) σ9
def f_X10_goRound_L12 (k2 : Int32 → zS → Option (Int32 × zS)) (x1 : Int32) : Nat → Int32 → zS → Option (Int32 × zS)
  | 0, _, _ => none
  | n + 1, x2, σ =>
  if (σ 0 16) ≤ x2 then
    zbd (f_X10_isReused x1 σ) fun v1 σ1 =>
    if v1 = 0 then
      zrd σ1 11 12 x1 fun v2 =>
      zrd σ1 7 12 x1 fun v3 =>
      zbd (f_X10_greater v2 v3 σ1) fun v4 σ4 =>
      zwr σ4 11 12 x1 v4 fun σ5 =>
      zrd σ5 8 12 x1 fun v6 =>
      zrd σ5 12 12 x1 fun v7 =>
      zbd (f_X10_lesser v6 v7 σ5) fun v8 σ8 =>
      zwr σ8 8 12 x1 v8 fun σ9 =>
      k2 (x1 + 1) σ9
    else
      zrd σ1 9 12 x1 fun v2 =>
      zrd σ1 7 12 x1 fun v3 =>
      zbd (f_X10_greater v2 v3 σ1) fun v4 σ4 =>
      zwr σ4 9 12 x1 v4 fun σ5 =>
      zrd σ5 11 12 x1 fun v6 =>
      zrd σ5 9 12 x1 fun v7 =>
      zbd (f_X10_greater v6 v7 σ5) fun v8 σ8 =>
      zwr σ8 11 12 x1 v8 fun σ9 =>
      zrd σ9 10 12 x1 fun v10 =>
      zrd σ9 12 12 x1 fun v11 =>
      zbd (f_X10_lesser v10 v11 σ9) fun v12 σ12 =>
      zwr σ12 10 12 x1 v12 fun σ13 =>
      zrd σ13 8 12 x1 fun v14 =>
      zrd σ13 10 12 x1 fun v15 =>
      zbd (f_X10_lesser v14 v15 σ13) fun v16 σ16 =>
      zwr σ16 8 12 x1 v16 fun σ17 =>
      k2 (x1 + 1) σ17
  else
    zbd (f_X10_at x1 9 σ) fun v1 σ1 =>
    if v1 = x2 then
      zrd σ1 7 12 x1 fun v2 =>
      zrd σ1 7 12 x2 fun v3 =>
      zbd (f_X10_greater v2 v3 σ1) fun v4 σ4 =>
      zwr σ4 7 12 x1 v4 fun σ5 =>
      zrd σ5 8 12 x2 fun v6 =>
      zrd σ5 8 12 x1 fun v7 =>
      zbd (f_X10_lesser v6 v7 σ5) fun v8 σ8 =>
      zwr σ8 8 12 x2 v8 fun σ9 =>
      f_X10_goRound_J73 (fun x2 σ => f_X10_goRound_L12 k2 x1 n x2 σ) x1 x2 σ9
    else
      f_X10_goRound_J73 (fun x2 σ => f_X10_goRound_L12 k2 x1 n x2 σ) x1 x2 σ1
def f_X10_goRound_L2 : Nat → Int32 → zS → Option (Int32 × zS)
  | 0, _, _ => none
  | n + 1, x1, σ =>
  if (σ 0 16) ≤ x1 then
    some (0, σ)
  else
    f_X10_goRound_L12 (fun x1 σ => f_X10_goRound_L2 n x1 σ) x1 zfu 0 σ
def f_X10_goRound (σ : zS) : Option (Int32 × zS) :=
  f_X10_goRound_L2 zfu 0 σ
def f_X10_warmthOf (x1 : Int32) (σ : zS) : Option (Int32 × zS) :=
  zbd (f_X10_at x1 0 σ) fun v1 σ1 =>
  zrd σ1 1 30 ((3 * v1) + 2) fun v2 =>
  some (v2, σ1)
def f_X10_ago (x0 : Int32) (x1 : Int32) (σ : zS) : Option (Int32 × zS) :=
  zdv (x0 * x0) x1 fun v1 =>
  if v1 ≤ 9999 then
    some (9999 - v1, σ)
  else
    some (0, σ)
def f_X10_begin_J233 (x1 : Int32) (σ : zS) : Option (Int32 × zS) :=
  zbd (f_X10_at x1 0 σ) fun v1 σ1 =>
  zrd σ1 1 30 (3 * v1) fun v2 =>
  zwr σ1 11 12 x1 v2 fun σ3 =>
  zbd (f_X10_at x1 0 σ3) fun v4 σ4 =>
  zrd σ4 1 30 ((3 * v4) + 1) fun v5 =>
  zwr σ4 12 12 x1 v5 fun σ6 =>
  some (0, σ6)
def f_X10_begin_J179 (x1 : Int32) (σ : zS) : Option (Int32 × zS) :=
  zbd (f_X10_isReused x1 σ) fun v1 σ1 =>
  if v1 = 0 then
    f_X10_begin_J233 x1 σ1
  else
    zbd (f_X10_at x1 8 σ1) fun v2 σ2 =>
    zbd (f_X10_warmthOf x1 σ2) fun v3 σ3 =>
    zbd (f_X10_ago (v2 + 1) v3 σ3) fun v4 σ4 =>
    zwr σ4 9 12 x1 v4 fun σ5 =>
    zbd (f_X10_at x1 8 σ5) fun v6 σ6 =>
    zbd (f_X10_warmthOf x1 σ6) fun v7 σ7 =>
    zbd (f_X10_ago (v6 - 1) v7 σ7) fun v8 σ8 =>
    zwr σ8 10 12 x1 v8 fun σ9 =>
    f_X10_begin_J233 x1 σ9
def f_X10_begin_J155 (x1 : Int32) (s0 : Int32) (s1 : Int32) (σ : zS) : Option (Int32 × zS) :=
  zwr σ 7 12 s1 s0 fun σ1 =>
  zbd (f_X10_at x1 7 σ1) fun v2 σ2 =>
  zbd (f_X10_warmthOf x1 σ2) fun v3 σ3 =>
  zbd (f_X10_ago (v2 - 1) v3 σ3) fun v4 σ4 =>
  zwr σ4 8 12 x1 v4 fun σ5 =>
  f_X10_begin_J179 x1 σ5
def f_X10_begin_L21 (x1 : Int32) (x2 : Int32) : Nat → Int32 → Int32 → zS → Option (Int32 × zS)
  | 0, _, _, _ => none
  | n + 1, x3, x4, σ =>
  if 9 ≤ x4 then
    zwr σ 7 12 x1 x3 fun σ1 =>
    zwr σ1 8 12 x1 9999 fun σ2 =>
    zwr σ2 9 12 x1 0 fun σ3 =>
    zwr σ3 10 12 x1 9999 fun σ4 =>
    zbd (f_X10_at x1 7 σ4) fun v5 σ5 =>
    if v5 ≤ 0 then
      f_X10_begin_J179 x1 σ5
    else
      zbd (f_X10_at x1 7 σ5) fun v6 σ6 =>
      zbd (f_X10_warmthOf x1 σ6) fun v7 σ7 =>
      zbd (f_X10_ago (v6 + 1) v7 σ7) fun v8 σ8 =>
      if v8 ≤ x3 then
        f_X10_begin_J155 x1 x3 x1 σ8
      else
        f_X10_begin_J155 x1 v8 x1 σ8
  else
    if ((x2 >>> (x4 &&& 31)) &&& 1) = 1 then
      zrd σ 3 54 ((6 * x4) + 1) fun v1 =>
      if x3 ≤ v1 then
        f_X10_begin_L21 x1 x2 n x3 (x4 + 1) σ
      else
        zrd σ 3 54 ((6 * x4) + 1) fun v2 =>
        f_X10_begin_L21 x1 x2 n v2 (x4 + 1) σ
    else
      f_X10_begin_L21 x1 x2 n x3 (x4 + 1) σ
def f_X10_begin (x1 : Int32) (σ : zS) : Option (Int32 × zS) :=
  zbd (f_X10_canBe x1 σ) fun v1 σ1 =>
  if v1 = 0 then
    f_X10_begin_L21 x1 v1 zfu 0 0 σ1
  else
    f_X10_begin_L21 x1 v1 zfu 9999 0 σ1
def f_X10_areYears_J112 (k43 : Int32 → Int32 → zS → Option (Int32 × zS)) (x2 : Int32) (σ : zS) : Option (Int32 × zS) :=
  k43 0 (x2 + 1) σ
def f_X10_areYears_L43 : Nat → Int32 → Int32 → zS → Option (Int32 × zS)
  | 0, _, _, _ => none
  | n + 1, x1, x2, σ =>
  if (σ 0 16) ≤ x2 then
    zrb x1 σ
  else
    if x1 = 0 then
      f_X10_areYears_J112 (fun x1 x2 σ => f_X10_areYears_L43 n x1 x2 σ) x2 σ
    else
      zrd σ 7 12 x2 fun v1 =>
      zrd σ 8 12 x2 fun v2 =>
      if v2 < v1 then
        f_X10_areYears_J112 (fun x1 x2 σ => f_X10_areYears_L43 n x1 x2 σ) x2 σ
      else
        zrd σ 11 12 x2 fun v3 =>
        zrd σ 12 12 x2 fun v4 =>
        if v4 < v3 then
          f_X10_areYears_J112 (fun x1 x2 σ => f_X10_areYears_L43 n x1 x2 σ) x2 σ
        else
          zbd (f_X10_isReused x2 σ) fun v5 σ5 =>
          if v5 = 0 then
            f_X10_areYears_L43 n 1 (x2 + 1) σ5
          else
            zrd σ5 9 12 x2 fun v6 =>
            zrd σ5 10 12 x2 fun v7 =>
            if v7 < v6 then
              f_X10_areYears_J112 (fun x1 x2 σ => f_X10_areYears_L43 n x1 x2 σ) x2 σ5
            else
              f_X10_areYears_L43 n 1 (x2 + 1) σ5
def f_X10_areYears_L23 : Nat → Int32 → zS → Option (Int32 × zS)
  | 0, _, _ => none
  | n + 1, x1, σ =>
  if 40 ≤ x1 then
    f_X10_areYears_L43 zfu 1 0 σ
  else
    zbd (f_X10_goRound σ) fun _ σ1 =>
    f_X10_areYears_L23 n (x1 + 1) σ1
def f_X10_areYears_L2 : Nat → Int32 → zS → Option (Int32 × zS)
  | 0, _, _ => none
  | n + 1, x1, σ =>
  if (σ 0 16) ≤ x1 then
    f_X10_areYears_L23 zfu 0 σ
  else
    zbd (f_X10_begin x1 σ) fun _ σ1 =>
    f_X10_areYears_L2 n (x1 + 1) σ1
def f_X10_areYears (σ : zS) : Option (Int32 × zS) :=
  f_X10_areYears_L2 zfu 0 σ
def f_X10_span (x1 : Int32) (x2 : Int32) (σ : zS) : Option (Int32 × zS) :=
  zbd (f_X10_isBlade x1 σ) fun v1 σ1 =>
  if v1 = 0 then
    some ((-2), σ1)
  else
    zbd (f_X10_in x2 0 5 σ1) fun v2 σ2 =>
    if v2 = 0 then
      some ((-3), σ2)
    else
      zbd (f_X10_areYears σ2) fun v3 σ3 =>
      if v3 = 0 then
        some ((-1), σ3)
      else
        if x2 = 0 then
          zrd σ3 7 12 x1 fun v4 =>
          some (v4, σ3)
        else
        if x2 = 1 then
          zrd σ3 8 12 x1 fun v4 =>
          some (v4, σ3)
        else
        if x2 = 2 then
          zbd (f_X10_isReused x1 σ3) fun v4 σ4 =>
          if v4 = 0 then
            some ((-1), σ4)
          else
            zrd σ4 9 12 x1 fun v5 =>
            some (v5, σ4)
        else
        if x2 = 3 then
          zbd (f_X10_isReused x1 σ3) fun v4 σ4 =>
          if v4 = 0 then
            some ((-1), σ4)
          else
            zrd σ4 10 12 x1 fun v5 =>
            some (v5, σ4)
        else
        if x2 = 4 then
          zrd σ3 11 12 x1 fun v4 =>
          some (v4, σ3)
        else
        zrd σ3 12 12 x1 fun v4 =>
        some (v4, σ3)
def f_X10_heirloom_J67 (x1 : Int32) (x2 : Int32) (s0 : Int32) (σ : zS) : Option (Int32 × zS) :=
  zrd σ 11 12 x1 fun v1 =>
  if v1 ≤ s0 then
    zrd σ 12 12 x1 fun v2 =>
    if v2 ≤ x2 then
      some (0, σ)
    else
      some (1, σ)
  else
    some (2, σ)
def f_X10_heirloom_J43 (x1 : Int32) (s0 : Int32) (σ : zS) : Option (Int32 × zS) :=
  zbd (f_X10_isReused x1 σ) fun v1 σ1 =>
  if v1 = 0 then
    zrd σ1 8 12 x1 fun v2 =>
    f_X10_heirloom_J67 x1 s0 v2 σ1
  else
    zrd σ1 10 12 x1 fun v2 =>
    f_X10_heirloom_J67 x1 s0 v2 σ1
def f_X10_heirloom (x1 : Int32) (σ : zS) : Option (Int32 × zS) :=
  zbd (f_X10_isBlade x1 σ) fun v1 σ1 =>
  if v1 = 0 then
    some ((-2), σ1)
  else
    zbd (f_X10_areYears σ1) fun v2 σ2 =>
    if v2 = 0 then
      some ((-1), σ2)
    else
      zbd (f_X10_isReused x1 σ2) fun v3 σ3 =>
      if v3 = 0 then
        zrd σ3 7 12 x1 fun v4 =>
        f_X10_heirloom_J43 x1 v4 σ3
      else
        zrd σ3 9 12 x1 fun v4 =>
        f_X10_heirloom_J43 x1 v4 σ3
def f_X10_mayBeFrom_J99 (k13 : Int32 → Int32 → zS → Option (Int32 × zS)) (x1 : Int32) (x3 : Int32) (x4 : Int32) (s0 : Int32) (s1 : Int32) (σ : zS) : Option (Int32 × zS) :=
  zwr σ 6 132 ((11 * x1) + 9) x3 fun σ1 =>
  k13 (s1 ||| s0) (x4 + 1) σ1
def f_X10_mayBeFrom_L13 (x1 : Int32) (x3 : Int32) : Nat → Int32 → Int32 → zS → Option (Int32 × zS)
  | 0, _, _, _ => none
  | n + 1, x2, x4, σ =>
  if (σ 0 16) ≤ x4 then
    some (x2, σ)
  else
    if x4 = x1 then
      f_X10_mayBeFrom_L13 x1 x3 n x2 (x4 + 1) σ
    else
      zbd (f_X10_canBe x1 σ) fun v1 σ1 =>
      zbd (f_X10_canBe x4 σ1) fun v2 σ2 =>
      if (v1 &&& v2) = 0 then
        f_X10_mayBeFrom_L13 x1 x3 n x2 (x4 + 1) σ2
      else
        zbd (f_X10_at x4 5 σ2) fun v3 σ3 =>
        zbd (f_X10_at x1 5 σ3) fun v4 σ4 =>
        if v3 ≤ v4 then
          f_X10_mayBeFrom_L13 x1 x3 n x2 (x4 + 1) σ4
        else
          zbd (f_X10_isFrom x4 x1 σ4) fun v5 σ5 =>
          if v5 = 0 then
            zwr σ5 6 132 ((11 * x1) + 9) x4 fun σ6 =>
            zbd (f_X10_areYears σ6) fun v7 σ7 =>
            if v7 = 0 then
              f_X10_mayBeFrom_J99 (fun x2 x4 σ => f_X10_mayBeFrom_L13 x1 x3 n x2 x4 σ) x1 x3 x4 0 x2 σ7
            else
              f_X10_mayBeFrom_J99 (fun x2 x4 σ => f_X10_mayBeFrom_L13 x1 x3 n x2 x4 σ) x1 x3 x4 ((1 : Int32) <<< (x4 &&& 31)) x2 σ7
          else
            f_X10_mayBeFrom_L13 x1 x3 n x2 (x4 + 1) σ5
def f_X10_mayBeFrom (x1 : Int32) (σ : zS) : Option (Int32 × zS) :=
  zbd (f_X10_at x1 9 σ) fun v1 σ1 =>
  f_X10_mayBeFrom_L13 x1 v1 zfu 0 0 σ1
def f_X10_from (x1 : Int32) (σ : zS) : Option (Int32 × zS) :=
  zbd (f_X10_isBlade x1 σ) fun v1 σ1 =>
  if v1 = 0 then
    some ((-2), σ1)
  else
    zbd (f_X10_mayBeFrom x1 σ1) fun v2 σ2 =>
    some (v2, σ2)
def f_X10_chain_L238 (k213 : Int32 → Int32 → zS → Option (Int32 × zS)) (x1 : Int32) (x2 : Int32) (x3 : Int32) (x4 : Int32) (x5 : Int32) : Nat → Int32 → Int32 → zS → Option (Int32 × zS)
  | 0, _, _, _ => none
  | n + 1, x6, x7, σ =>
  if x7 < 0 then
    if x6 = (-1) then
      k213 x2 (x5 + 1) σ
    else
      k213 x6 (x5 + 1) σ
  else
    zrd σ 13 12 x7 fun v1 =>
    if ((v1 >>> (x2 &&& 31)) &&& 1) = 1 then
      zrd σ 14 12 x7 fun v2 =>
      zrd σ 14 12 x2 fun v3 =>
      if (v2 + 1) = v3 then
        f_X10_chain_L238 k213 x1 x2 x3 x4 x5 n x7 (x7 + (-1)) σ
      else
        f_X10_chain_L238 k213 x1 x2 x3 x4 x5 n x6 (x7 + (-1)) σ
    else
      f_X10_chain_L238 k213 x1 x2 x3 x4 x5 n x6 (x7 + (-1)) σ
def f_X10_chain_L213 (x1 : Int32) (x3 : Int32) (x4 : Int32) : Nat → Int32 → Int32 → zS → Option (Int32 × zS)
  | 0, _, _, _ => none
  | n + 1, x2, x5, σ =>
  if x3 ≤ x5 then
    if x1 = (-1) then
      some (x3, σ)
    else
      if x1 = (-2) then
        zbd (f_X10_at x4 5 σ) fun v1 σ1 =>
        zbd (f_X10_at x2 5 σ1) fun v2 σ2 =>
        some (v1 - v2, σ2)
      else
        some ((-1), σ)
  else
    if x5 = x1 then
      some (x2, σ)
    else
      f_X10_chain_L238 (fun x2 x5 σ => f_X10_chain_L213 x1 x3 x4 n x2 x5 σ) x1 x2 x3 x4 x5 zfu (-1) ((σ 0 16) - 1) σ
def f_X10_chain_L145 (x1 : Int32) : Nat → Int32 → Int32 → zS → Option (Int32 × zS)
  | 0, _, _, _ => none
  | n + 1, x2, x3, σ =>
  if (σ 0 16) ≤ x3 then
    if x2 = (-1) then
      if x1 < 0 then
        some (0, σ)
      else
        some ((-1), σ)
    else
      zrd σ 14 12 x2 fun v1 =>
      f_X10_chain_L213 x1 v1 x2 zfu x2 0 σ
  else
    if x2 = (-1) then
      f_X10_chain_L145 x1 n x3 (x3 + 1) σ
    else
      zrd σ 14 12 x3 fun v1 =>
      zrd σ 14 12 x2 fun v2 =>
      if v1 ≤ v2 then
        f_X10_chain_L145 x1 n x2 (x3 + 1) σ
      else
        f_X10_chain_L145 x1 n x3 (x3 + 1) σ
def f_X10_chain_L66 (k55 : Int32 → zS → Option (Int32 × zS)) (x1 : Int32) (x2 : Int32) (x3 : Int32) : Nat → Int32 → zS → Option (Int32 × zS)
  | 0, _, _ => none
  | n + 1, x4, σ =>
  if (σ 0 16) ≤ x4 then
    k55 (x3 + 1) σ
  else
    zrd σ 13 12 x4 fun v1 =>
    if ((v1 >>> (x3 &&& 31)) &&& 1) = 1 then
      zrd σ 14 12 x3 fun v2 =>
      zrd σ 14 12 x4 fun v3 =>
      zbd (f_X10_greater v2 (v3 + 1) σ) fun v4 σ4 =>
      zwr σ4 14 12 x3 v4 fun σ5 =>
      f_X10_chain_L66 k55 x1 x2 x3 n (x4 + 1) σ5
    else
      zrd σ 14 12 x3 fun v2 =>
      zwr σ 14 12 x3 v2 fun σ3 =>
      f_X10_chain_L66 k55 x1 x2 x3 n (x4 + 1) σ3
def f_X10_chain_L55 (k45 : Int32 → zS → Option (Int32 × zS)) (x1 : Int32) (x2 : Int32) : Nat → Int32 → zS → Option (Int32 × zS)
  | 0, _, _ => none
  | n + 1, x3, σ =>
  if (σ 0 16) ≤ x3 then
    k45 (x2 + 1) σ
  else
    f_X10_chain_L66 (fun x3 σ => f_X10_chain_L55 k45 x1 x2 n x3 σ) x1 x2 x3 zfu 0 σ
def f_X10_chain_L45 (x1 : Int32) : Nat → Int32 → zS → Option (Int32 × zS)
  | 0, _, _ => none
  | n + 1, x2, σ =>
  if (σ 0 16) ≤ x2 then
    f_X10_chain_L145 x1 zfu (-1) 0 σ
  else
    f_X10_chain_L55 (fun x2 σ => f_X10_chain_L45 x1 n x2 σ) x1 x2 zfu 0 σ
def f_X10_chain_L11 (x1 : Int32) : Nat → Int32 → zS → Option (Int32 × zS)
  | 0, _, _ => none
  | n + 1, x2, σ =>
  if (σ 0 16) ≤ x2 then
    f_X10_chain_L45 x1 zfu 0 σ
  else
    zbd (f_X10_mayBeFrom x2 σ) fun v1 σ1 =>
    zwr σ1 13 12 x2 v1 fun σ2 =>
    zwr σ2 14 12 x2 1 fun σ3 =>
    f_X10_chain_L11 x1 n (x2 + 1) σ3
def f_X10_chain (x1 : Int32) (σ : zS) : Option (Int32 × zS) :=
  if (-2) ≤ x1 then
    f_X10_chain_L11 x1 zfu 0 σ
  else
    some ((-3), σ)
def f_X10_isLive (x1 : Int32) (x2 : Int32) (σ : zS) : Option (Int32 × zS) :=
  zrd σ 1 30 (3 * x1) fun v1 =>
  zrd σ 1 30 ((3 * x1) + 1) fun v2 =>
  zbd (f_X10_in x2 v1 v2 σ) fun v3 σ3 =>
  zrb v3 σ3
def f_X10_layOut_J227 (k71 : Int32 → zS → Option (Int32 × zS)) (x2 : Int32) (x3 : Int32) (x4 : Int32) (x5 : Int32) (x6 : Int32) (x9 : Int32) (s0 : Int32) (s1 : Int32) (σ : zS) : Option (Int32 × zS) :=
  zwr σ 15 10 s1 s0 fun σ1 =>
  zrd σ1 16 10 x6 fun v2 =>
  if v2 = (-1) then
    zrd σ1 16 10 x5 fun v3 =>
    zwr σ1 16 10 x6 (v3 + x9) fun σ4 =>
    k71 (x6 + 1) σ4
  else
    zrd σ1 16 10 x6 fun v3 =>
    zrd σ1 16 10 x5 fun v4 =>
    zbd (f_X10_lesser v3 (v4 + x9) σ1) fun v5 σ5 =>
    zwr σ5 16 10 x6 v5 fun σ6 =>
    k71 (x6 + 1) σ6
def f_X10_layOut_J179 (k71 : Int32 → zS → Option (Int32 × zS)) (x2 : Int32) (x3 : Int32) (x4 : Int32) (x5 : Int32) (x6 : Int32) (x9 : Int32) (σ : zS) : Option (Int32 × zS) :=
  zrd σ 15 10 x6 fun v1 =>
  if v1 = (-1) then
    zrd σ 15 10 x5 fun v2 =>
    f_X10_layOut_J227 k71 x2 x3 x4 x5 x6 x9 (v2 + 1) x6 σ
  else
    zrd σ 15 10 x6 fun v2 =>
    zrd σ 15 10 x5 fun v3 =>
    zbd (f_X10_lesser v2 (v3 + 1) σ) fun v4 σ4 =>
    f_X10_layOut_J227 k71 x2 x3 x4 x5 x6 x9 v4 x6 σ4
def f_X10_layOut_J157 (k71 : Int32 → zS → Option (Int32 × zS)) (x2 : Int32) (x3 : Int32) (x4 : Int32) (x5 : Int32) (x6 : Int32) (s0 : Int32) (σ : zS) : Option (Int32 × zS) :=
  if s0 ≤ 0 then
    k71 (x6 + 1) σ
  else
    if x2 = (-1) then
      f_X10_layOut_J179 k71 x2 x3 x4 x5 x6 s0 σ
    else
      zbd (f_X10_isLive x6 x2 σ) fun v1 σ1 =>
      if v1 = 0 then
        k71 (x6 + 1) σ1
      else
        f_X10_layOut_J179 k71 x2 x3 x4 x5 x6 s0 σ1
def f_X10_layOut_J128 (k71 : Int32 → zS → Option (Int32 × zS)) (x2 : Int32) (x3 : Int32) (x4 : Int32) (x5 : Int32) (x6 : Int32) (x7 : Int32) (s0 : Int32) (σ : zS) : Option (Int32 × zS) :=
  if x7 = 0 then
    f_X10_layOut_J157 k71 x2 x3 x4 x5 x6 s0 σ
  else
    if s0 = 0 then
      f_X10_layOut_J157 k71 x2 x3 x4 x5 x6 x7 σ
    else
      zbd (f_X10_lesser x7 s0 σ) fun v1 σ1 =>
      f_X10_layOut_J157 k71 x2 x3 x4 x5 x6 v1 σ1
def f_X10_layOut_L71 (k61 : Int32 → zS → Option (Int32 × zS)) (x2 : Int32) (x3 : Int32) (x4 : Int32) (x5 : Int32) : Nat → Int32 → zS → Option (Int32 × zS)
  | 0, _, _ => none
  | n + 1, x6, σ =>
  if 10 ≤ x6 then
    k61 (x5 + 1) σ
  else
    zrd σ 15 10 x5 fun v1 =>
    if v1 = (-1) then
      k61 (x5 + 1) σ
    else
      zrd σ 2 200 ((10 * x5) + x6) fun v2 =>
      if x3 = 0 then
        f_X10_layOut_J128 (fun x6 σ => f_X10_layOut_L71 k61 x2 x3 x4 x5 n x6 σ) x2 x3 x4 x5 x6 v2 0 σ
      else
        zrd σ 2 200 ((100 + (10 * x5)) + x6) fun v3 =>
        f_X10_layOut_J128 (fun x6 σ => f_X10_layOut_L71 k61 x2 x3 x4 x5 n x6 σ) x2 x3 x4 x5 x6 v2 v3 σ
def f_X10_layOut_L61 (k51 : Int32 → zS → Option (Int32 × zS)) (x2 : Int32) (x3 : Int32) (x4 : Int32) : Nat → Int32 → zS → Option (Int32 × zS)
  | 0, _, _ => none
  | n + 1, x5, σ =>
  if 10 ≤ x5 then
    k51 (x4 + 1) σ
  else
    f_X10_layOut_L71 (fun x5 σ => f_X10_layOut_L61 k51 x2 x3 x4 n x5 σ) x2 x3 x4 x5 zfu 0 σ
def f_X10_layOut_L51 (x2 : Int32) (x3 : Int32) : Nat → Int32 → zS → Option (Int32 × zS)
  | 0, _, _ => none
  | n + 1, x4, σ =>
  if 10 ≤ x4 then
    some (0, σ)
  else
    f_X10_layOut_L61 (fun x4 σ => f_X10_layOut_L51 x2 x3 n x4 σ) x2 x3 x4 zfu 0 σ
def f_X10_layOut_J27 (k3 : Int32 → zS → Option (Int32 × zS)) (x1 : Int32) (x2 : Int32) (x3 : Int32) (x4 : Int32) (s0 : Int32) (s1 : Int32) (σ : zS) : Option (Int32 × zS) :=
  zwr σ 15 10 s1 s0 fun σ1 =>
  zrd σ1 15 10 x4 fun v2 =>
  zwr σ1 16 10 x4 v2 fun σ3 =>
  k3 (x4 + 1) σ3
def f_X10_layOut_L3 (x1 : Int32) (x2 : Int32) (x3 : Int32) : Nat → Int32 → zS → Option (Int32 × zS)
  | 0, _, _ => none
  | n + 1, x4, σ =>
  if 10 ≤ x4 then
    f_X10_layOut_L51 x2 x3 zfu 0 σ
  else
    if x4 = x1 then
      f_X10_layOut_J27 (fun x4 σ => f_X10_layOut_L3 x1 x2 x3 n x4 σ) x1 x2 x3 x4 0 x4 σ
    else
      f_X10_layOut_J27 (fun x4 σ => f_X10_layOut_L3 x1 x2 x3 n x4 σ) x1 x2 x3 x4 (-1) x4 σ
def f_X10_layOut (x1 : Int32) (x2 : Int32) (x3 : Int32) (σ : zS) : Option (Int32 × zS) :=
  f_X10_layOut_L3 x1 x2 x3 zfu 0 σ
def f_X10_legs (x1 : Int32) (x2 : Int32) (x3 : Int32) (x4 : Int32) (x5 : Int32) (σ : zS) : Option (Int32 × zS) :=
  zbd (f_X10_isBlade x1 σ) fun v1 σ1 =>
  if v1 = 0 then
    some ((-2), σ1)
  else
    zbd (f_X10_isFlow x2 σ1) fun v2 σ2 =>
    if v2 = 0 then
      some ((-2), σ2)
    else
      zbd (f_X10_in x3 0 9999 σ2) fun v3 σ3 =>
      if v3 = 0 then
        some ((-3), σ3)
      else
        zbd (f_X10_in x5 0 1 σ3) fun v4 σ4 =>
        if v4 = 0 then
          some ((-3), σ4)
        else
          zrd σ4 3 54 (6 * x2) fun v5 =>
          zbd (f_X10_layOut v5 x3 x4 σ4) fun _ σ6 =>
          if x5 = 0 then
            zbd (f_X10_at x1 0 σ6) fun v7 σ7 =>
            zrd σ7 15 10 v7 fun v8 =>
            some (v8, σ7)
          else
            zbd (f_X10_at x1 0 σ6) fun v7 σ7 =>
            zrd σ7 16 10 v7 fun v8 =>
            some (v8, σ7)
def f_X10_comesBy_J161 (k31 : Int32 → Int32 → Int32 → zS → Option (Int32 × zS)) (x1 : Int32) (x2 : Int32) (x3 : Int32) (x4 : Int32) (x5 : Int32) (x6 : Int32) (x8 : Int32) (x10 : Int32) (s0 : Int32) (σ : zS) : Option (Int32 × zS) :=
  if x10 = (-1) then
    k31 x6 s0 (x8 + 1) σ
  else
    if x6 = (-1) then
      k31 x10 s0 (x8 + 1) σ
    else
      if x6 ≤ x10 then
        k31 x6 s0 (x8 + 1) σ
      else
        k31 x10 s0 (x8 + 1) σ
def f_X10_comesBy_J86 (k31 : Int32 → Int32 → Int32 → zS → Option (Int32 × zS)) (x1 : Int32) (x2 : Int32) (x3 : Int32) (x4 : Int32) (x5 : Int32) (x6 : Int32) (x7 : Int32) (x8 : Int32) (s0 : Int32) (σ : zS) : Option (Int32 × zS) :=
  if s0 < x5 then
    k31 x6 x7 (x8 + 1) σ
  else
    zrd σ 12 12 x1 fun v1 =>
    if v1 < s0 then
      k31 x6 x7 (x8 + 1) σ
    else
      zrd σ 3 54 (6 * x2) fun v2 =>
      zbd (f_X10_layOut v2 s0 x3 σ) fun _ σ3 =>
      zbd (f_X10_at x1 0 σ3) fun v4 σ4 =>
      zrd σ4 15 10 v4 fun v5 =>
      if v5 = (-1) then
        f_X10_comesBy_J161 k31 x1 x2 x3 x4 x5 x6 x8 v5 x7 σ4
      else
        if x7 = (-1) then
          f_X10_comesBy_J161 k31 x1 x2 x3 x4 x5 x6 x8 v5 s0 σ4
        else
          if x7 ≤ s0 then
            f_X10_comesBy_J161 k31 x1 x2 x3 x4 x5 x6 x8 v5 x7 σ4
          else
            f_X10_comesBy_J161 k31 x1 x2 x3 x4 x5 x6 x8 v5 s0 σ4
def f_X10_comesBy_L31 (x1 : Int32) (x2 : Int32) (x3 : Int32) (x4 : Int32) (x5 : Int32) : Nat → Int32 → Int32 → Int32 → zS → Option (Int32 × zS)
  | 0, _, _, _, _ => none
  | n + 1, x6, x7, x8, σ =>
  if 21 ≤ x8 then
    if x4 = 0 then
      some (x7, σ)
    else
      some (x6, σ)
  else
    if x8 = 20 then
      f_X10_comesBy_J86 (fun x6 x7 x8 σ => f_X10_comesBy_L31 x1 x2 x3 x4 x5 n x6 x7 x8 σ) x1 x2 x3 x4 x5 x6 x7 x8 x5 σ
    else
      zrm2 x8 2 fun v1 =>
      if v1 = 0 then
        zdv x8 2 fun v2 =>
        zrd σ 1 30 (3 * v2) fun v3 =>
        f_X10_comesBy_J86 (fun x6 x7 x8 σ => f_X10_comesBy_L31 x1 x2 x3 x4 x5 n x6 x7 x8 σ) x1 x2 x3 x4 x5 x6 x7 x8 v3 σ
      else
        zdv x8 2 fun v2 =>
        zrd σ 1 30 ((3 * v2) + 1) fun v3 =>
        f_X10_comesBy_J86 (fun x6 x7 x8 σ => f_X10_comesBy_L31 x1 x2 x3 x4 x5 n x6 x7 x8 σ) x1 x2 x3 x4 x5 x6 x7 x8 (v3 + 1) σ
def f_X10_comesBy (x1 : Int32) (x2 : Int32) (x3 : Int32) (x4 : Int32) (σ : zS) : Option (Int32 × zS) :=
  zrd σ 7 12 x1 fun v1 =>
  zrd σ 3 54 ((6 * x2) + 1) fun v2 =>
  zbd (f_X10_greater v1 v2 σ) fun v3 σ3 =>
  f_X10_comesBy_L31 x1 x2 x3 x4 v3 zfu (-1) (-1) 0 σ3
def f_X10_reach (x1 : Int32) (x2 : Int32) (x3 : Int32) (x4 : Int32) (σ : zS) : Option (Int32 × zS) :=
  zbd (f_X10_isBlade x1 σ) fun v1 σ1 =>
  if v1 = 0 then
    some ((-2), σ1)
  else
    zbd (f_X10_isFlow x2 σ1) fun v2 σ2 =>
    if v2 = 0 then
      some ((-2), σ2)
    else
      zbd (f_X10_in x4 0 1 σ2) fun v3 σ3 =>
      if v3 = 0 then
        some ((-3), σ3)
      else
        zbd (f_X10_areYears σ3) fun v4 σ4 =>
        if v4 = 0 then
          some ((-1), σ4)
        else
          zbd (f_X10_comesBy x1 x2 x3 x4 σ4) fun v5 σ5 =>
          some (v5, σ5)
def f_X10_byBoat_J76 (k36 : Int32 → Int32 → Int32 → zS → Option (Int32 × zS)) (x1 : Int32) (x2 : Int32) (x3 : Int32) (x5 : Int32) (x6 : Int32) (s0 : Int32) (σ : zS) : Option (Int32 × zS) :=
  if x5 = 0 then
    zbd (f_X10_comesBy x2 x6 1 0 σ) fun v1 σ1 =>
    if v1 = (-1) then
      k36 s0 0 (x6 + 1) σ1
    else
      k36 s0 1 (x6 + 1) σ1
  else
    k36 s0 1 (x6 + 1) σ
def f_X10_byBoat_L36 (k13 : Int32 → Int32 → zS → Option (Int32 × zS)) (x1 : Int32) (x2 : Int32) (x3 : Int32) : Nat → Int32 → Int32 → Int32 → zS → Option (Int32 × zS)
  | 0, _, _, _, _ => none
  | n + 1, x4, x5, x6, σ =>
  if 9 ≤ x6 then
    if x5 = 0 then
      k13 (x1 ||| 0) (x2 + 1) σ
    else
      if x4 = 0 then
        k13 (x1 ||| ((1 : Int32) <<< (x2 &&& 31))) (x2 + 1) σ
      else
        k13 (x1 ||| 0) (x2 + 1) σ
  else
    if ((x3 >>> (x6 &&& 31)) &&& 1) = 1 then
      if x4 = 0 then
        zbd (f_X10_comesBy x2 x6 0 0 σ) fun v1 σ1 =>
        if v1 = (-1) then
          f_X10_byBoat_J76 (fun x4 x5 x6 σ => f_X10_byBoat_L36 k13 x1 x2 x3 n x4 x5 x6 σ) x1 x2 x3 x5 x6 0 σ1
        else
          f_X10_byBoat_J76 (fun x4 x5 x6 σ => f_X10_byBoat_L36 k13 x1 x2 x3 n x4 x5 x6 σ) x1 x2 x3 x5 x6 1 σ1
      else
        f_X10_byBoat_J76 (fun x4 x5 x6 σ => f_X10_byBoat_L36 k13 x1 x2 x3 n x4 x5 x6 σ) x1 x2 x3 x5 x6 1 σ
    else
      f_X10_byBoat_L36 k13 x1 x2 x3 n x4 x5 (x6 + 1) σ
def f_X10_byBoat_L13 : Nat → Int32 → Int32 → zS → Option (Int32 × zS)
  | 0, _, _, _ => none
  | n + 1, x1, x2, σ =>
  if (σ 0 16) ≤ x2 then
    some (x1, σ)
  else
    zbd (f_X10_canBe x2 σ) fun v1 σ1 =>
    f_X10_byBoat_L36 (fun x1 x2 σ => f_X10_byBoat_L13 n x1 x2 σ) x1 x2 v1 zfu 0 0 0 σ1
def f_X10_byBoat (σ : zS) : Option (Int32 × zS) :=
  zbd (f_X10_areYears σ) fun v1 σ1 =>
  if v1 = 0 then
    some (0, σ1)
  else
    f_X10_byBoat_L13 zfu 0 0 σ1
def f_X10_boats (σ : zS) : Option (Int32 × zS) :=
  zbd (f_X10_byBoat σ) fun v1 σ1 =>
  some (v1, σ1)
def f_X10_sea_J41 (k9 : Int32 → Int32 → zS → Option (Int32 × zS)) (x1 : Int32) (x3 : Int32) (σ : zS) : Option (Int32 × zS) :=
  zrd σ 12 12 x3 fun v1 =>
  k9 v1 (x3 + 1) σ
def f_X10_sea_L9 (x1 : Int32) : Nat → Int32 → Int32 → zS → Option (Int32 × zS)
  | 0, _, _, _ => none
  | n + 1, x2, x3, σ =>
  if (σ 0 16) ≤ x3 then
    some (x2, σ)
  else
    if ((x1 >>> (x3 &&& 31)) &&& 1) = 1 then
      if x2 = (-1) then
        f_X10_sea_J41 (fun x2 x3 σ => f_X10_sea_L9 x1 n x2 x3 σ) x1 x3 σ
      else
        zrd σ 12 12 x3 fun v1 =>
        if x2 ≤ v1 then
          f_X10_sea_L9 x1 n x2 (x3 + 1) σ
        else
          f_X10_sea_J41 (fun x2 x3 σ => f_X10_sea_L9 x1 n x2 x3 σ) x1 x3 σ
    else
      f_X10_sea_L9 x1 n x2 (x3 + 1) σ
def f_X10_sea (σ : zS) : Option (Int32 × zS) :=
  zbd (f_X10_byBoat σ) fun v1 σ1 =>
  f_X10_sea_L9 v1 zfu (-1) 0 σ1
def f_X10_next_J38 (k4 : Int32 → Int32 → zS → Option (Int32 × zS)) (x1 : Int32) (x2 : Int32) (x3 : Int32) (s0 : Int32) (σ : zS) : Option (Int32 × zS) :=
  if s0 < x3 then
    k4 x2 (x2 + 1) σ
  else
    if x3 = s0 then
      if x1 = (-1) then
        k4 x1 (x2 + 1) σ
      else
        zbd (f_X10_at x2 4 σ) fun v1 σ1 =>
        zbd (f_X10_at x1 4 σ1) fun v2 σ2 =>
        if v1 ≤ v2 then
          k4 x1 (x2 + 1) σ2
        else
          k4 x2 (x2 + 1) σ2
    else
      k4 x1 (x2 + 1) σ
def f_X10_next_L4 : Nat → Int32 → Int32 → zS → Option (Int32 × zS)
  | 0, _, _, _ => none
  | n + 1, x1, x2, σ =>
  if (σ 0 16) ≤ x2 then
    some (x1, σ)
  else
    zbd (f_X10_canBe x2 σ) fun v1 σ1 =>
    zbd (f_X10_bits v1 σ1) fun v2 σ2 =>
    if x1 = (-1) then
      f_X10_next_J38 (fun x1 x2 σ => f_X10_next_L4 n x1 x2 σ) x1 x2 v2 1 σ2
    else
      zbd (f_X10_canBe x1 σ2) fun v3 σ3 =>
      zbd (f_X10_bits v3 σ3) fun v4 σ4 =>
      f_X10_next_J38 (fun x1 x2 σ => f_X10_next_L4 n x1 x2 σ) x1 x2 v2 v4 σ4
def f_X10_next (σ : zS) : Option (Int32 × zS) :=
  f_X10_next_L4 zfu (-1) 0 σ
def f_X10_counts (x1 : Int32) (x2 : Int32) (x3 : Int32) (x4 : Int32) (σ : zS) : Option (Int32 × zS) :=
  zbd (f_X10_isPlace x1 σ) fun v1 σ1 =>
  if v1 = 0 then
    some ((-2), σ1)
  else
    zbd (f_X10_isFlow x2 σ1) fun v2 σ2 =>
    if v2 = 0 then
      some ((-2), σ2)
    else
      zbd (f_X10_in x4 1 999 σ2) fun v3 σ3 =>
      if v3 = 0 then
        some ((-3), σ3)
      else
        zbd (f_X10_in x3 0 x4 σ3) fun v4 σ4 =>
        if v4 = 0 then
          some ((-3), σ4)
        else
          zwr σ4 17 90 ((10 * x2) + x1) x3 fun σ5 =>
          zwr σ5 18 90 ((10 * x2) + x1) x4 fun σ6 =>
          some (1, σ6)
def f_X10_shareBy_L54 : Nat → Int32 → Int32 → zS → Option (Int32 × zS)
  | 0, _, _, _ => none
  | n + 1, x3, x4, σ =>
  if x4 ≤ 0 then
    some (x3, σ)
  else
    if x3 ≤ 0 then
      some (x3, σ)
    else
      zdv x3 2 fun v1 =>
      f_X10_shareBy_L54 n v1 (x4 + (-1)) σ
def f_X10_shareBy (x0 : Int32) (x1 : Int32) (x2 : Int32) (σ : zS) : Option (Int32 × zS) :=
  if x0 = 1 then
    zdv (x1 * x2) 10 fun v1 =>
    zbd (f_X10_greater 0 (1000 - v1) σ) fun v2 σ2 =>
    some (v2, σ2)
  else
    if x0 = 2 then
      if (10 * x1) < x2 then
        some (100, σ)
      else
        some (900, σ)
    else
      zdv x2 (10 * x1) fun v1 =>
      f_X10_shareBy_L54 zfu 1000 v1 σ
def f_X10_missBy_L6 (x1 : Int32) (x2 : Int32) (x3 : Int32) : Nat → Int32 → Int32 → zS → Option (Int32 × zS)
  | 0, _, _, _ => none
  | n + 1, x4, x5, σ =>
  if 10 ≤ x5 then
    some (x4, σ)
  else
    zrd σ 18 90 ((10 * x1) + x5) fun v1 =>
    if v1 ≤ 0 then
      f_X10_missBy_L6 x1 x2 x3 n x4 (x5 + 1) σ
    else
      zrd σ 16 10 x5 fun v2 =>
      if v2 = (-1) then
        f_X10_missBy_L6 x1 x2 x3 n x4 (x5 + 1) σ
      else
        zrd σ 17 90 ((10 * x1) + x5) fun v3 =>
        zrd σ 18 90 ((10 * x1) + x5) fun v4 =>
        zdv (1000 * v3) v4 fun v5 =>
        zrd σ 16 10 x5 fun v6 =>
        zbd (f_X10_shareBy x2 x3 v6 σ) fun v7 σ7 =>
        if 0 ≤ (v5 - v7) then
          f_X10_missBy_L6 x1 x2 x3 n (x4 + (v5 - v7)) (x5 + 1) σ7
        else
          f_X10_missBy_L6 x1 x2 x3 n (x4 + (-(v5 - v7))) (x5 + 1) σ7
def f_X10_missBy (x1 : Int32) (x2 : Int32) (x3 : Int32) (σ : zS) : Option (Int32 × zS) :=
  f_X10_missBy_L6 x1 x2 x3 zfu 0 0 σ
def f_X10_miss (x1 : Int32) (x2 : Int32) (x3 : Int32) (σ : zS) : Option (Int32 × zS) :=
  zbd (f_X10_isFlow x1 σ) fun v1 σ1 =>
  if v1 = 0 then
    some ((-2), σ1)
  else
    zbd (f_X10_in x2 0 2 σ1) fun v2 σ2 =>
    if v2 = 0 then
      some ((-3), σ2)
    else
      zbd (f_X10_in x3 1 99 σ2) fun v3 σ3 =>
      if v3 = 0 then
        some ((-3), σ3)
      else
        zrd σ3 3 54 (6 * x1) fun v4 =>
        zbd (f_X10_layOut v4 (-1) 1 σ3) fun _ σ5 =>
        zbd (f_X10_missBy x1 x2 x3 σ5) fun v6 σ6 =>
        some (v6, σ6)
def f_X10_law_J85 (k55 : Int32 → Int32 → Int32 → zS → Option (Int32 × zS)) (x1 : Int32) (x2 : Int32) (x5 : Int32) (x6 : Int32) (x7 : Int32) (σ : zS) : Option (Int32 × zS) :=
  k55 ((100 * x5) + x6) x7 (x6 + 1) σ
def f_X10_law_L55 (k46 : Int32 → Int32 → Int32 → zS → Option (Int32 × zS)) (x1 : Int32) (x2 : Int32) (x5 : Int32) : Nat → Int32 → Int32 → Int32 → zS → Option (Int32 × zS)
  | 0, _, _, _, _ => none
  | n + 1, x3, x4, x6, σ =>
  if 100 ≤ x6 then
    k46 x3 x4 (x5 + 1) σ
  else
    zbd (f_X10_missBy x1 x5 x6 σ) fun v1 σ1 =>
    if x3 = (-1) then
      f_X10_law_J85 (fun x3 x4 x6 σ => f_X10_law_L55 k46 x1 x2 x5 n x3 x4 x6 σ) x1 x2 x5 x6 v1 σ1
    else
      if x4 ≤ v1 then
        f_X10_law_L55 k46 x1 x2 x5 n x3 x4 (x6 + 1) σ1
      else
        f_X10_law_J85 (fun x3 x4 x6 σ => f_X10_law_L55 k46 x1 x2 x5 n x3 x4 x6 σ) x1 x2 x5 x6 v1 σ1
def f_X10_law_L46 (x1 : Int32) (x2 : Int32) : Nat → Int32 → Int32 → Int32 → zS → Option (Int32 × zS)
  | 0, _, _, _, _ => none
  | n + 1, x3, x4, x5, σ =>
  if 3 ≤ x5 then
    if x2 = 0 then
      some (x3, σ)
    else
      some (x4, σ)
  else
    f_X10_law_L55 (fun x3 x4 x5 σ => f_X10_law_L46 x1 x2 n x3 x4 x5 σ) x1 x2 x5 zfu x3 x4 1 σ
def f_X10_law (x1 : Int32) (x2 : Int32) (σ : zS) : Option (Int32 × zS) :=
  zbd (f_X10_isFlow x1 σ) fun v1 σ1 =>
  if v1 = 0 then
    some ((-2), σ1)
  else
    zbd (f_X10_in x2 0 1 σ1) fun v2 σ2 =>
    if v2 = 0 then
      some ((-3), σ2)
    else
      zrd σ2 3 54 (6 * x1) fun v3 =>
      zbd (f_X10_layOut v3 (-1) 1 σ2) fun _ σ4 =>
      f_X10_law_L46 x1 x2 zfu (-1) 0 0 σ4
def f_X10_dated (x1 : Int32) (x2 : Int32) (σ : zS) : Option (Int32 × zS) :=
  zbd (f_X10_isBlade x1 σ) fun v1 σ1 =>
  if v1 = 0 then
    some ((-2), σ1)
  else
    zbd (f_X10_in x2 (-1) 9999 σ1) fun v2 σ2 =>
    if v2 = 0 then
      some ((-3), σ2)
    else
      zwr σ2 6 132 ((11 * x1) + 10) x2 fun σ3 =>
      some (1, σ3)
def f_X10_learnt_J176 (k30 : Int32 → Int32 → Int32 → zS → Option (Int32 × zS)) (x1 : Int32) (x2 : Int32) (x4 : Int32) (x5 : Int32) (x6 : Int32) (x7 : Int32) (s0 : Int32) (σ : zS) : Option (Int32 × zS) :=
  if x6 = 0 then
    k30 s0 x4 (x5 + 1) σ
  else
    if x7 = 0 then
      k30 s0 x4 (x5 + 1) σ
    else
      k30 s0 x5 (x5 + 1) σ
def f_X10_learnt_L47 (k30 : Int32 → Int32 → Int32 → zS → Option (Int32 × zS)) (x1 : Int32) (x2 : Int32) (x3 : Int32) (x4 : Int32) (x5 : Int32) : Nat → Int32 → Int32 → Int32 → zS → Option (Int32 × zS)
  | 0, _, _, _, _ => none
  | n + 1, x6, x7, x8, σ =>
  if (σ 0 16) ≤ x8 then
    if x6 = 0 then
      f_X10_learnt_J176 k30 x1 x2 x4 x5 x6 x7 x3 σ
    else
      if x7 = 0 then
        f_X10_learnt_J176 k30 x1 x2 x4 x5 x6 x7 x3 σ
      else
        if x3 = (-1) then
          f_X10_learnt_J176 k30 x1 x2 x4 x5 x6 x7 x5 σ
        else
          f_X10_learnt_J176 k30 x1 x2 x4 x5 x6 x7 x3 σ
  else
    zbd (f_X10_at x8 0 σ) fun v1 σ1 =>
    if v1 = x1 then
      zbd (f_X10_at x8 7 σ1) fun v2 σ2 =>
      if v2 ≤ 0 then
        f_X10_learnt_L47 k30 x1 x2 x3 x4 x5 n x6 x7 (x8 + 1) σ2
      else
        zbd (f_X10_at x8 10 σ2) fun v3 σ3 =>
        if v3 = (-1) then
          f_X10_learnt_L47 k30 x1 x2 x3 x4 x5 n x6 x7 (x8 + 1) σ3
        else
          if x6 = 0 then
            f_X10_learnt_L47 k30 x1 x2 x3 x4 x5 n 0 1 (x8 + 1) σ3
          else
            zbd (f_X10_at x8 10 σ3) fun v4 σ4 =>
            zbd (f_X10_at x8 7 σ4) fun v5 σ5 =>
            zbd (f_X10_ago (v5 + 1) x5 σ5) fun v6 σ6 =>
            zbd (f_X10_at x8 7 σ6) fun v7 σ7 =>
            zbd (f_X10_ago (v7 - 1) x5 σ7) fun v8 σ8 =>
            zbd (f_X10_in v4 v6 v8 σ8) fun v9 σ9 =>
            if v9 = 0 then
              f_X10_learnt_L47 k30 x1 x2 x3 x4 x5 n 0 1 (x8 + 1) σ9
            else
              f_X10_learnt_L47 k30 x1 x2 x3 x4 x5 n 1 1 (x8 + 1) σ9
    else
      f_X10_learnt_L47 k30 x1 x2 x3 x4 x5 n x6 x7 (x8 + 1) σ1
def f_X10_learnt_L30 (x1 : Int32) (x2 : Int32) : Nat → Int32 → Int32 → Int32 → zS → Option (Int32 × zS)
  | 0, _, _, _, _ => none
  | n + 1, x3, x4, x5, σ =>
  if 1000 ≤ x5 then
    if x2 = 0 then
      some (x3, σ)
    else
      some (x4, σ)
  else
    f_X10_learnt_L47 (fun x3 x4 x5 σ => f_X10_learnt_L30 x1 x2 n x3 x4 x5 σ) x1 x2 x3 x4 x5 zfu 1 0 0 σ
def f_X10_learnt (x1 : Int32) (x2 : Int32) (σ : zS) : Option (Int32 × zS) :=
  zbd (f_X10_isPlace x1 σ) fun v1 σ1 =>
  if v1 = 0 then
    some ((-2), σ1)
  else
    zbd (f_X10_in x2 0 1 σ1) fun v2 σ2 =>
    if v2 = 0 then
      some ((-3), σ2)
    else
      f_X10_learnt_L30 x1 x2 zfu (-1) (-1) 1 σ2
def f_X10_count_L70 : Nat → Int32 → Int32 → zS → Option (Int32 × zS)
  | 0, _, _, _ => none
  | n + 1, x2, x3, σ =>
  if (σ 0 16) ≤ x3 then
    some (x2, σ)
  else
    zbd (f_X10_at x3 9 σ) fun v1 σ1 =>
    if v1 = (-1) then
      f_X10_count_L70 n (x2 + 0) (x3 + 1) σ1
    else
      f_X10_count_L70 n (x2 + 1) (x3 + 1) σ1
def f_X10_count (x1 : Int32) (σ : zS) : Option (Int32 × zS) :=
  if x1 = 0 then
    zbd (f_X10_bits (σ 0 3) σ) fun v1 σ1 =>
    some (v1, σ1)
  else
  if x1 = 1 then
    some (σ 0 6, σ)
  else
  if x1 = 2 then
    some (σ 0 16, σ)
  else
  if x1 = 3 then
    some (σ 0 4, σ)
  else
  if x1 = 4 then
    some (σ 0 5, σ)
  else
  if x1 = 5 then
    f_X10_count_L70 zfu 0 0 σ
  else
  some ((-3), σ)
