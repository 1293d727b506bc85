def ff_X5r_allows (a1 : Int32) (h : hh_) : Int32 :=
  if a1 < 0 then
    (0 : Int32)
  else
    if (6 : Int32) ≤ a1 then
      (0 : Int32)
    else
      (1 : Int32)
def ff_X5r_renew_10 (x1 : Int32) (x2 : Int32) (x3 : Int32) : Nat → Int32 → hh_ → Option (hh_)
  | 0, _, _ => none
  | n9 + 1, x4, h =>
    if x2 ≤ x4 then
      some (h)
    else
      gd_ (bi_ x1 6) <|
      gd_ (bi_ x4 40) <|
      ff_X5r_renew_10 x1 x2 x3 n9 (x4 + (1 : Int32)) (hh_sI h (4 + Int32.toNatClampNeg x1) (Int32.toNatClampNeg x4) x3)
def ff_X5r_renew (a1 : Int32) (a2 : Int32) (a3 : Int32) (h : hh_) : Option (hh_) :=
  gd_ (bi_ a1 6) <|
  ff_X5r_renew_10 a1 a2 a3 FU_ (0 : Int32) (hh_sI h 10 (Int32.toNatClampNeg a1) a2)
def ff_X6_refuse (a1 : Int32) (h : hh_) : Option (Int32 × hh_) :=
  gd_ (bi_ a1 6) <|
  some ((-3 : Int32), (hh_sI (hh_sI h 36 1 a1) 37 (Int32.toNatClampNeg a1) (((hh_sI h 36 1 a1).1 37 (Int32.toNatClampNeg a1)) + (1 : Int32))))
def ff_X7_row (a1 : Int32) (a2 : Int32) (h : hh_) : Option (Int32 × hh_) :=
  if (ff_X5r_allows a1 h) = 0 then
    some ((-1 : Int32), h)
  else
    if a2 ≤ (40 : Int32) then
      if 0 ≤ a2 then
        (ff_X5r_renew a1 a2 (0 : Int32) h).bind fun v1 =>
        some (a2, v1)
      else
        (ff_X6_refuse (5 : Int32) h).bind fun v3 =>
        some (v3.1, v3.2)
    else
      some ((-1 : Int32), h)
def ff_X5r_lacks (a1 : Int32) (h : hh_) : Option (Int32) :=
  gd_ (bi_ a1 6) <|
  if (h.1 10 (Int32.toNatClampNeg a1)) = (-1 : Int32) then
    some (1 : Int32)
  else
    some (0 : Int32)
def ff_X5r_findingAt (a1 : Int32) (a2 : Int32) (h : hh_) : Option (Int32) :=
  (ff_X5r_lacks a1 h).bind fun v1 =>
  if v1 = 0 then
    if a2 < 0 then
      some (2 : Int32)
    else
      gd_ (bi_ a1 6) <|
      if a2 < (h.1 10 (Int32.toNatClampNeg a1)) then
        some (0 : Int32)
      else
        some (2 : Int32)
  else
    some (1 : Int32)
def ff_X6_tell (a1 : Int32) (h : hh_) : Int32 × hh_ :=
  ((1 : Int32), (hh_sI h 36 2 a1))
def ff_X7_lay (a1 : Int32) (a2 : Int32) (a3 : Int32) (h : hh_) : Option (Int32 × hh_) :=
  if (ff_X5r_allows a1 h) = 0 then
    some ((-1 : Int32), h)
  else
    (ff_X5r_findingAt a1 a2 h).bind fun v1 =>
    if v1 = 0 then
      gd_ (bi_ a1 6) <|
      gd_ (bi_ a2 40) <|
      some ((ff_X6_tell (h.1 (4 + Int32.toNatClampNeg a1) (Int32.toNatClampNeg a2)) (hh_sI h (4 + Int32.toNatClampNeg a1) (Int32.toNatClampNeg a2) a3)).1, (ff_X6_tell (h.1 (4 + Int32.toNatClampNeg a1) (Int32.toNatClampNeg a2)) (hh_sI h (4 + Int32.toNatClampNeg a1) (Int32.toNatClampNeg a2) a3)).2)
    else
      (ff_X6_refuse v1 h).bind fun v5 =>
      some (v5.1, v5.2)
def ff_X7_at (a1 : Int32) (a2 : Int32) (h : hh_) : Option (Int32 × hh_) :=
  if (ff_X5r_allows a1 h) = 0 then
    some ((-1 : Int32), h)
  else
    (ff_X5r_findingAt a1 a2 h).bind fun v1 =>
    if v1 = 0 then
      gd_ (bi_ a1 6) <|
      gd_ (bi_ a2 40) <|
      some ((ff_X6_tell (h.1 (4 + Int32.toNatClampNeg a1) (Int32.toNatClampNeg a2)) h).1, (ff_X6_tell (h.1 (4 + Int32.toNatClampNeg a1) (Int32.toNatClampNeg a2)) h).2)
    else
      (ff_X6_refuse v1 h).bind fun v5 =>
      some (v5.1, v5.2)
def ff_X7_tear (a1 : Int32) (h : hh_) : Option (Int32 × hh_) :=
  if (ff_X5r_allows a1 h) = 0 then
    some ((-1 : Int32), h)
  else
    (ff_X5r_lacks a1 h).bind fun v1 =>
    if v1 = 0 then
      gd_ (bi_ a1 6) <|
      some ((1 : Int32), (hh_sI h 10 (Int32.toNatClampNeg a1) (-1 : Int32)))
    else
      (ff_X6_refuse (1 : Int32) h).bind fun v4 =>
      some (v4.1, v4.2)
def ff_X5r_spans (a1 : Int32) (a2 : Int32) (a3 : Int32) (h : hh_) : Option (Int32) :=
  if a2 < 0 then
    some (0 : Int32)
  else
    gd_ (bi_ a1 6) <|
    if (h.1 10 (Int32.toNatClampNeg a1)) < a3 then
      some (0 : Int32)
    else
      if ((h.1 10 (Int32.toNatClampNeg a1)) - a3) < a2 then
        some (0 : Int32)
      else
        some (1 : Int32)
def ff_X7_copy (a1 : Int32) (a2 : Int32) (a3 : Int32) (a4 : Int32) (a5 : Int32) (h : hh_) : Option (Int32 × hh_) :=
  if (ff_X5r_allows a1 h) = 0 then
    some ((-1 : Int32), h)
  else
    if (ff_X5r_allows a3 h) = 0 then
      some ((-1 : Int32), h)
    else
      if 0 ≤ a5 then
        (ff_X5r_lacks a1 h).bind fun v1 =>
        if v1 = 0 then
          (ff_X5r_lacks a3 h).bind fun v5 =>
          if v5 = 0 then
            (ff_X5r_spans a1 a2 a5 h).bind fun v7 =>
            if v7 = 0 then
              (ff_X6_refuse (2 : Int32) h).bind fun v9 =>
              some (v9.1, v9.2)
            else
              (ff_X5r_spans a3 a4 a5 h).bind fun v11 =>
              if v11 = 0 then
                (ff_X6_refuse (2 : Int32) h).bind fun v16 =>
                some (v16.1, v16.2)
              else
                gd_ (bi_ a1 6) <|
                gd_ (bi_ a3 6) <|
                gd_ (bc_ a2 a4 a5 40 40) <|
                some ((1 : Int32), (hh_cp h (4 + Int32.toNatClampNeg a1) (4 + Int32.toNatClampNeg a3) (Int32.toNatClampNeg a2) (Int32.toNatClampNeg a4) (Int32.toNatClampNeg a5)))
          else
            (ff_X6_refuse (1 : Int32) h).bind fun v18 =>
            some (v18.1, v18.2)
        else
          (ff_X6_refuse (1 : Int32) h).bind fun v3 =>
          some (v3.1, v3.2)
      else
        (ff_X6_refuse (5 : Int32) h).bind fun v20 =>
        some (v20.1, v20.2)
def ff_X5r_sum_5 (x1 : Int32) (h : hh_) : Nat → Int64 → Int32 → Option (Int64)
  | 0, _, _ => none
  | n9 + 1, x2, x4 =>
    gd_ (bi_ x1 6) <|
    if (h.1 10 (Int32.toNatClampNeg x1)) ≤ x4 then
      some (x2)
    else
      gd_ (bi_ x4 40) <|
      ff_X5r_sum_5 x1 h n9 (x2 + (Int32.toInt64 (h.1 (4 + Int32.toNatClampNeg x1) (Int32.toNatClampNeg x4)))) (x4 + (1 : Int32))
def ff_X5r_sum (a1 : Int32) (h : hh_) : Option (Int64) :=
  ff_X5r_sum_5 a1 h FU_ (0 : Int64) (0 : Int32)
def ff_X7_mean (a1 : Int32) (h : hh_) : Option (Int32 × hh_) :=
  if (ff_X5r_allows a1 h) = 0 then
    some ((-1 : Int32), h)
  else
    (ff_X5r_lacks a1 h).bind fun v1 =>
    if v1 = 0 then
      gd_ (bi_ a1 6) <|
      if (h.1 10 (Int32.toNatClampNeg a1)) = 0 then
        (ff_X6_refuse (4 : Int32) h).bind fun v7 =>
        some (v7.1, v7.2)
      else
        (ff_X5r_sum a1 h).bind fun v4 =>
        gd_ (bm_ (Int32.toInt64 (h.1 10 (Int32.toNatClampNeg a1)))) <|
        some ((ff_X6_tell (Int64.toInt32 (v4 / (Int32.toInt64 (h.1 10 (Int32.toNatClampNeg a1))))) h).1, (ff_X6_tell (Int64.toInt32 (v4 / (Int32.toInt64 (h.1 10 (Int32.toNatClampNeg a1))))) h).2)
    else
      (ff_X6_refuse (1 : Int32) h).bind fun v9 =>
      some (v9.1, v9.2)
def ff_X5t_allows (a1 : Int32) (h : hh_) : Int32 :=
  if a1 < 0 then
    (0 : Int32)
  else
    if (4 : Int32) ≤ a1 then
      (0 : Int32)
    else
      (1 : Int32)
def ff_X5t_renew_10 (x1 : Int32) (x2 : Int32) (x3 : Int32) : Nat → Int32 → hh_ → Option (hh_)
  | 0, _, _ => none
  | n9 + 1, x4, h =>
    if x2 ≤ x4 then
      some (h)
    else
      gd_ (bi_ x1 4) <|
      gd_ (bi_ x4 80) <|
      ff_X5t_renew_10 x1 x2 x3 n9 (x4 + (1 : Int32)) (hh_sI h (13 + Int32.toNatClampNeg x1) (Int32.toNatClampNeg x4) x3)
def ff_X5t_renew (a1 : Int32) (a2 : Int32) (a3 : Int32) (h : hh_) : Option (hh_) :=
  gd_ (bi_ a1 4) <|
  ff_X5t_renew_10 a1 a2 a3 FU_ (0 : Int32) (hh_sI h 17 (Int32.toNatClampNeg a1) a2)
def ff_X7_text (a1 : Int32) (a2 : Int32) (h : hh_) : Option (Int32 × hh_) :=
  if (ff_X5t_allows a1 h) = 0 then
    some ((-1 : Int32), h)
  else
    if a2 ≤ (80 : Int32) then
      if 0 ≤ a2 then
        (ff_X5t_renew a1 a2 (32 : Int32) h).bind fun v1 =>
        some (a2, v1)
      else
        (ff_X6_refuse (5 : Int32) h).bind fun v3 =>
        some (v3.1, v3.2)
    else
      some ((-1 : Int32), h)
def ff_X5t_lacks (a1 : Int32) (h : hh_) : Option (Int32) :=
  gd_ (bi_ a1 4) <|
  if (h.1 17 (Int32.toNatClampNeg a1)) = (-1 : Int32) then
    some (1 : Int32)
  else
    some (0 : Int32)
def ff_X5t_findingAt (a1 : Int32) (a2 : Int32) (h : hh_) : Option (Int32) :=
  (ff_X5t_lacks a1 h).bind fun v1 =>
  if v1 = 0 then
    if a2 < 0 then
      some (2 : Int32)
    else
      gd_ (bi_ a1 4) <|
      if a2 < (h.1 17 (Int32.toNatClampNeg a1)) then
        some (0 : Int32)
      else
        some (2 : Int32)
  else
    some (1 : Int32)
def ff_X7_put (a1 : Int32) (a2 : Int32) (a3 : Int32) (h : hh_) : Option (Int32 × hh_) :=
  if (ff_X5t_allows a1 h) = 0 then
    some ((-1 : Int32), h)
  else
    (ff_X5t_findingAt a1 a2 h).bind fun v1 =>
    if v1 = 0 then
      gd_ (bi_ a1 4) <|
      gd_ (bi_ a2 80) <|
      some (((h.1 (13 + Int32.toNatClampNeg a1) (Int32.toNatClampNeg a2)) + (1000 : Int32)), (hh_sI h (13 + Int32.toNatClampNeg a1) (Int32.toNatClampNeg a2) (Int8.toInt32 (Int32.toInt8 a3))))
    else
      (ff_X6_refuse v1 h).bind fun v5 =>
      some (v5.1, v5.2)
def ff_X4_kindBy_2 (x0 : Int32) (h : hh_) : Nat → Int32 → Option (Int32)
  | 0, _ => none
  | n9 + 1, x1 =>
    if (6 : Int32) ≤ x1 then
      some (-9 : Int32)
    else
      gd_ (bi_ x1 6) <|
      if ((sn_ 3).2.getD (Int32.toNatClampNeg x1) 0) = x0 then
        some (x1)
      else
        ff_X4_kindBy_2 x0 h n9 (x1 + (1 : Int32))
def ff_X4_kindBy (a0 : Int32) (h : hh_) : Option (Int32) :=
  ff_X4_kindBy_2 a0 h FU_ (0 : Int32)
def ff_X4_opensItem_106 (x3 : Int32) (h : hh_) : Option (Int32 × hh_) :=
  gd_ (bi_ x3 3) <|
  gd_ (bo_ h.2.2.2.2) <|
  some ((1 : Int32), (hh_sI (hh_sI (hh_sI h 19 1 x3) 19 2 ((sn_ 0).2.getD (Int32.toNatClampNeg x3) 0)) (h.2.2.2.2 + 23) (Int32.toNatClampNeg x3) (((hh_sI (hh_sI h 19 1 x3) 19 2 ((sn_ 0).2.getD (Int32.toNatClampNeg x3) 0)).1 (h.2.2.2.2 + 23) (Int32.toNatClampNeg x3)) + (1 : Int32))))
def ff_X4_opensItem_62 (x2 : Int32) (x3 : Int32) (h : hh_) : Option (Int32 × hh_) :=
  gd_ (bo_ h.2.2.2.2) <|
  gd_ (bi_ x3 3) <|
  if (h.1 (h.2.2.2.2 + 23) (Int32.toNatClampNeg x3)) < ((sn_ 4).2.getD (Int32.toNatClampNeg x3) 0) then
    if x3 = (1 : Int32) then
      gd_ (bi_ (h.1 (h.2.2.2.2 + 23) (Int32.toNatClampNeg (1 : Int32))) 4) <|
      ff_X4_opensItem_106 x3 (hh_sI h (h.2.2.2.2 + 14 + Int32.toNatClampNeg (h.1 (h.2.2.2.2 + 23) (Int32.toNatClampNeg (1 : Int32)))) (Int32.toNatClampNeg (0 : Int32)) x2)
    else
      ff_X4_opensItem_106 x3 h
  else
    some ((0 : Int32), h)
def ff_X4_opensItem_37 (x2 : Int32) (y0 : Int32) (h : hh_) : Option (Int32 × hh_) :=
  if y0 < (h.1 19 1) then
    some ((0 : Int32), h)
  else
    if y0 = 0 then
      ff_X4_opensItem_62 x2 y0 h
    else
      gd_ (bo_ h.2.2.2.2) <|
      if (h.1 (h.2.2.2.2 + 23) (Int32.toNatClampNeg (0 : Int32))) = 0 then
        some ((0 : Int32), h)
      else
        ff_X4_opensItem_62 x2 y0 h
def ff_X4_opensItem (a1 : Int32) (h : hh_) : Option (Int32 × hh_) :=
  (ff_X4_kindBy a1 h).bind fun v1 =>
  if v1 = (-9 : Int32) then
    if a1 = (104 : Int32) then
      ff_X4_opensItem_37 v1 (0 : Int32) h
    else
      if a1 = (112 : Int32) then
        ff_X4_opensItem_37 v1 (2 : Int32) h
      else
        ff_X4_opensItem_37 v1 (-9 : Int32) h
  else
    ff_X4_opensItem_37 v1 (1 : Int32) h
def ff_X4_takesFigure (a1 : Int32) (h : hh_) : Option (Int32 × hh_) :=
  gd_ (bi_ (h.1 19 1) 3) <|
  gd_ (bi_ (((h.1 19 1) * (5 : Int32)) + (((sn_ 0).2.getD (Int32.toNatClampNeg (h.1 19 1)) 0) - (h.1 19 2))) 15) <|
  if (a1 - (48 : Int32)) < ((sn_ 1).2.getD (Int32.toNatClampNeg (((h.1 19 1) * (5 : Int32)) + (((sn_ 0).2.getD (Int32.toNatClampNeg (h.1 19 1)) 0) - (h.1 19 2)))) 0) then
    some ((0 : Int32), h)
  else
    if (a1 - (48 : Int32)) ≤ ((sn_ 2).2.getD (Int32.toNatClampNeg (((h.1 19 1) * (5 : Int32)) + (((sn_ 0).2.getD (Int32.toNatClampNeg (h.1 19 1)) 0) - (h.1 19 2)))) 0) then
      gd_ (bo_ h.2.2.2.2) <|
      if (h.1 19 1) = 0 then
        gd_ (bi_ ((h.1 (h.2.2.2.2 + 23) (Int32.toNatClampNeg (h.1 19 1))) - (1 : Int32)) 5) <|
        gd_ (bi_ (((sn_ 0).2.getD (Int32.toNatClampNeg (h.1 19 1)) 0) - (h.1 19 2)) 5) <|
        some ((1 : Int32), (hh_sI (hh_sI h (h.2.2.2.2 + 2 + Int32.toNatClampNeg ((h.1 (h.2.2.2.2 + 23) (Int32.toNatClampNeg (h.1 19 1))) - (1 : Int32))) (Int32.toNatClampNeg (((sn_ 0).2.getD (Int32.toNatClampNeg (h.1 19 1)) 0) - (h.1 19 2))) (a1 - (48 : Int32))) 19 2 (((hh_sI h (h.2.2.2.2 + 2 + Int32.toNatClampNeg ((h.1 (h.2.2.2.2 + 23) (Int32.toNatClampNeg (h.1 19 1))) - (1 : Int32))) (Int32.toNatClampNeg (((sn_ 0).2.getD (Int32.toNatClampNeg (h.1 19 1)) 0) - (h.1 19 2))) (a1 - (48 : Int32))).1 19 2) - (1 : Int32))))
      else
        if (h.1 19 1) = (1 : Int32) then
          gd_ (bi_ ((h.1 (h.2.2.2.2 + 23) (Int32.toNatClampNeg (h.1 19 1))) - (1 : Int32)) 4) <|
          gd_ (bi_ ((1 : Int32) + (((sn_ 0).2.getD (Int32.toNatClampNeg (h.1 19 1)) 0) - (h.1 19 2))) 3) <|
          some ((1 : Int32), (hh_sI (hh_sI h (h.2.2.2.2 + 14 + Int32.toNatClampNeg ((h.1 (h.2.2.2.2 + 23) (Int32.toNatClampNeg (h.1 19 1))) - (1 : Int32))) (Int32.toNatClampNeg ((1 : Int32) + (((sn_ 0).2.getD (Int32.toNatClampNeg (h.1 19 1)) 0) - (h.1 19 2)))) (a1 - (48 : Int32))) 19 2 (((hh_sI h (h.2.2.2.2 + 14 + Int32.toNatClampNeg ((h.1 (h.2.2.2.2 + 23) (Int32.toNatClampNeg (h.1 19 1))) - (1 : Int32))) (Int32.toNatClampNeg ((1 : Int32) + (((sn_ 0).2.getD (Int32.toNatClampNeg (h.1 19 1)) 0) - (h.1 19 2)))) (a1 - (48 : Int32))).1 19 2) - (1 : Int32))))
        else
          gd_ (bi_ ((h.1 (h.2.2.2.2 + 23) (Int32.toNatClampNeg (h.1 19 1))) - (1 : Int32)) 4) <|
          gd_ (bi_ (((sn_ 0).2.getD (Int32.toNatClampNeg (h.1 19 1)) 0) - (h.1 19 2)) 5) <|
          some ((1 : Int32), (hh_sI (hh_sI h (h.2.2.2.2 + 19 + Int32.toNatClampNeg ((h.1 (h.2.2.2.2 + 23) (Int32.toNatClampNeg (h.1 19 1))) - (1 : Int32))) (Int32.toNatClampNeg (((sn_ 0).2.getD (Int32.toNatClampNeg (h.1 19 1)) 0) - (h.1 19 2))) (a1 - (48 : Int32))) 19 2 (((hh_sI h (h.2.2.2.2 + 19 + Int32.toNatClampNeg ((h.1 (h.2.2.2.2 + 23) (Int32.toNatClampNeg (h.1 19 1))) - (1 : Int32))) (Int32.toNatClampNeg (((sn_ 0).2.getD (Int32.toNatClampNeg (h.1 19 1)) 0) - (h.1 19 2))) (a1 - (48 : Int32))).1 19 2) - (1 : Int32))))
    else
      some ((0 : Int32), h)
def ff_X4_goesOn (a1 : Int32) (h : hh_) : Option (Int32 × hh_) :=
  if (h.1 19 2) ≤ 0 then
    if a1 = (32 : Int32) then
      some ((1 : Int32), h)
    else
      (ff_X4_opensItem a1 h).bind fun v1 =>
      if v1.1 = 0 then
        some ((0 : Int32), v1.2)
      else
        some ((1 : Int32), v1.2)
  else
    (ff_X4_takesFigure a1 h).bind fun v3 =>
    gd_ (bz_ v3.1) <|
    some (v3.1, v3.2)
def ff_X4_into_18 (x2 : Nat) (x3 : Int32) (K18_48 : hh_ → Option (Int32 × hh_)) : Nat → Int32 → hh_ → Option (Int32 × hh_)
  | 0, _, _ => none
  | n9 + 1, x4, h =>
    gd_ (bo_ h.2.2.2.2) <|
    if (3 : Int32) ≤ x4 then
      K18_48 h
    else
      gd_ (bi_ x4 3) <|
      ff_X4_into_18 x2 x3 K18_48 n9 (x4 + (1 : Int32)) (hh_sI h (h.2.2.2.2 + 23) (Int32.toNatClampNeg x4) (0 : Int32))
def ff_X4_into_51 (x2 : Nat) (x3 : Int32) (K51_77 : hh_ → Option (Int32 × hh_)) : Nat → Int32 → hh_ → Option (Int32 × hh_)
  | 0, _, _ => none
  | n9 + 1, x4, h =>
    if x3 ≤ x4 then
      K51_77 h
    else
      gd_ (bp_ x2 x4) <|
      (ff_X4_goesOn (h.1 x2 (Int32.toNatClampNeg x4)) h).bind fun v5 =>
      if v5.1 = 0 then
        some (x4, v5.2)
      else
        ff_X4_into_51 x2 x3 K51_77 n9 (x4 + (1 : Int32)) v5.2
def ff_X4_into (a1 : Nat) (a2 : Nat) (a3 : Int32) (h : hh_) : Option (Int32 × hh_) :=
  ff_X4_into_18 a2 a3 (fun k3 =>
    ff_X4_into_51 a2 a3 (fun k7 =>
      if 0 < (k7.1 19 2) then
        some (a3, k7)
      else
        gd_ (bo_ k7.2.2.2.2) <|
        if (k7.1 (k7.2.2.2.2 + 23) (Int32.toNatClampNeg (0 : Int32))) = 0 then
          some (a3, k7)
        else
          some ((-9 : Int32), k7)) FU_ (0 : Int32) k3) FU_ (0 : Int32) (hh_sI (hh_sI (hh_sO h a1) 19 1 (0 : Int32)) 19 2 (0 : Int32))
def ff_X7_fault (a1 : Int32) (h : hh_) : Option (Int32 × hh_) :=
  if (ff_X5t_allows a1 h) = 0 then
    some ((-1 : Int32), h)
  else
    (ff_X5t_lacks a1 h).bind fun v1 =>
    if v1 = 0 then
      gd_ (bo_ h.2.2.2.1) <|
      gd_ (bi_ a1 4) <|
      (ff_X4_into h.2.2.2.1 (13 + Int32.toNatClampNeg a1) (h.1 17 (Int32.toNatClampNeg a1)) h).bind fun v5 =>
      some (v5.1, v5.2)
    else
      (ff_X6_refuse (1 : Int32) h).bind fun v7 =>
      some (v7.1, v7.2)
def ff_X2_repeat_47 (x2 : Nat) (x3 : Int32) (x4 : Int32) (h : hh_) (K47_61 : hh_ → Option (hh_)) : Option (hh_) :=
  gd_ (bi_ x4 5) <|
  K47_61 (hh_sI h x2 (Int32.toNatClampNeg x4) (if ((h.1 x2 (Int32.toNatClampNeg x4)) + (1 : Int32)) < (5 : Int32) then ((h.1 x2 (Int32.toNatClampNeg x4)) + (1 : Int32)) else (5 : Int32)))
def ff_X2_repeat_30 (x2 : Nat) (x3 : Int32) : Nat → Int32 → hh_ → Option (hh_)
  | 0, _, _ => none
  | n9 + 1, x4, h =>
    if (4 : Int32) ≤ x4 then
      some (h)
    else
      if x3 = (4 : Int32) then
        ff_X2_repeat_47 x2 x3 x4 h (fun k3 =>
          ff_X2_repeat_30 x2 x3 n9 (x4 + (1 : Int32)) k3)
      else
        if x3 = x4 then
          ff_X2_repeat_47 x2 x3 x4 h (fun k4 =>
            ff_X2_repeat_30 x2 x3 n9 (x4 + (1 : Int32)) k4)
        else
          ff_X2_repeat_30 x2 x3 n9 (x4 + (1 : Int32)) h
def ff_X2_repeat (o : Nat) (a1 : Int32) (h : hh_) : Option (hh_) :=
  gd_ (bi_ (a1 / (8 : Int32)) 5) <|
  if (a1 - a1 / (8 : Int32) * (8 : Int32)) < (5 : Int32) then
    ff_X2_repeat_30 (o + 8 + Int32.toNatClampNeg (a1 / (8 : Int32))) (a1 - a1 / (8 : Int32) * (8 : Int32)) FU_ (0 : Int32) h
  else
    some (hh_sI h (o + 8 + Int32.toNatClampNeg (a1 / (8 : Int32))) (Int32.toNatClampNeg (4 : Int32)) ((a1 - a1 / (8 : Int32) * (8 : Int32)) - (5 : Int32)))
def ff_X2_goBack_2 (x0 : Nat) (x1 : Int32) (K2_36 : hh_ → Option (hh_)) : Nat → Int32 → hh_ → Option (hh_)
  | 0, _, _ => none
  | n9 + 1, x2, h =>
    if (h.1 (x0 + 23) (Int32.toNatClampNeg (0 : Int32))) ≤ x2 then
      K2_36 h
    else
      gd_ (bi_ x2 5) <|
      gd_ (bc_ (0 : Int32) (0 : Int32) (5 : Int32) 5 5) <|
      ff_X2_goBack_2 x0 x1 K2_36 n9 (x2 + (1 : Int32)) (hh_cp h (x0 + 2 + Int32.toNatClampNeg x2) (x0 + 8 + Int32.toNatClampNeg x2) (Int32.toNatClampNeg (0 : Int32)) (Int32.toNatClampNeg (0 : Int32)) (Int32.toNatClampNeg (5 : Int32)))
def ff_X2_goBack_38 (x0 : Nat) (x1 : Int32) : Nat → Int32 → hh_ → Option (hh_)
  | 0, _, _ => none
  | n9 + 1, x2, h =>
    if x1 ≤ x2 then
      some (hh_sI h x0 6 x1)
    else
      gd_ (bi_ x2 40) <|
      (ff_X2_repeat x0 (h.1 (x0 + 24) (Int32.toNatClampNeg x2)) h).bind fun v5 =>
      ff_X2_goBack_38 x0 x1 n9 (x2 + (1 : Int32)) v5
def ff_X2_goBack (o : Nat) (a1 : Int32) (h : hh_) : Option (hh_) :=
  ff_X2_goBack_2 o a1 (fun k3 =>
    ff_X2_goBack_38 o a1 FU_ (0 : Int32) k3) FU_ (0 : Int32) h
def ff_X7_office_98 : Nat → Int32 → hh_ → Option (Int32 × hh_)
  | 0, _, _ => none
  | n9 + 1, x3, h =>
    if (3 : Int32) ≤ x3 then
      gd_ (bo_ h.2.2.1) <|
      some ((h.1 (h.2.2.1 + 23) (Int32.toNatClampNeg (0 : Int32))), h)
    else
      gd_ (bi_ x3 3) <|
      ff_X7_office_98 n9 (x3 + (1 : Int32)) (hh_sI h (89 + 3 * Int32.toNatClampNeg x3) 2 (-1 : Int32))
def ff_X7_office (a1 : Int32) (h : hh_) : Option (Int32 × hh_) :=
  if (ff_X5t_allows a1 h) = 0 then
    some ((-1 : Int32), h)
  else
    (ff_X5t_lacks a1 h).bind fun v1 =>
    if v1 = 0 then
      gd_ (bo_ h.2.2.2.1) <|
      gd_ (bi_ a1 4) <|
      (ff_X4_into h.2.2.2.1 (13 + Int32.toNatClampNeg a1) (h.1 17 (Int32.toNatClampNeg a1)) h).bind fun v5 =>
      if v5.1 = (-9 : Int32) then
        gd_ (bo_ v5.2.2.2.1) <|
        gd_ (bo_ v5.2.2.2.2.1) <|
        (ff_X2_goBack v5.2.2.2.2.1 (0 : Int32) (hh_sD (hh_sN v5.2 v5.2.2.2.2.1) v5.2.2.2.1)).bind fun v9 =>
        ff_X7_office_98 FU_ (0 : Int32) v9
      else
        some ((-4 : Int32), v5.2)
    else
      (ff_X6_refuse (1 : Int32) h).bind fun v13 =>
      some (v13.1, v13.2)
def ff_X2_has (o : Nat) (a1 : Int32) (a2 : Int32) (h : hh_) : Option (Int32) :=
  if a2 < 0 then
    some (0 : Int32)
  else
    gd_ (bi_ a1 3) <|
    if (h.1 (o + 23) (Int32.toNatClampNeg a1)) ≤ a2 then
      some (0 : Int32)
    else
      some (1 : Int32)
def ff_X2_together_4 (x0 : Nat) (x1 : Int32) (h : hh_) : Nat → Int32 → Int32 → Option (Int32)
  | 0, _, _ => none
  | n9 + 1, x2, x3 =>
    if (4 : Int32) ≤ x3 then
      some (x2)
    else
      gd_ (bi_ x1 5) <|
      gd_ (bi_ x3 5) <|
      ff_X2_together_4 x0 x1 h n9 (x2 + (h.1 (x0 + 8 + Int32.toNatClampNeg x1) (Int32.toNatClampNeg x3))) (x3 + (1 : Int32))
def ff_X2_together (o : Nat) (a1 : Int32) (h : hh_) : Option (Int32) :=
  ff_X2_together_4 o a1 h FU_ (0 : Int32) (0 : Int32)
def ff_X2_ofHead (o : Nat) (a1 : Int32) (a2 : Int32) (h : hh_) : Option (Int32) :=
  if a2 = (5 : Int32) then
    (ff_X2_together o a1 h).bind fun v3 =>
    some (v3)
  else
    gd_ (bi_ a1 5) <|
    gd_ (bi_ a2 5) <|
    some (h.1 (o + 8 + Int32.toNatClampNeg a1) (Int32.toNatClampNeg a2))
def ff_X7_head (a1 : Int32) (a2 : Int32) (h : hh_) : Option (Int32 × hh_) :=
  gd_ (bo_ h.2.2.1) <|
  (ff_X2_has h.2.2.1 (0 : Int32) a1 h).bind fun v2 =>
  if v2 = 0 then
    some ((-1 : Int32), h)
  else
    if a2 < 0 then
      some ((-1 : Int32), h)
    else
      if a2 ≤ (5 : Int32) then
        (ff_X2_ofHead h.2.2.1 a1 a2 h).bind fun v4 =>
        some ((ff_X6_tell v4 h).1, (ff_X6_tell v4 h).2)
      else
        some ((-1 : Int32), h)
def ff_X7_thumb (a1 : Int32) (a2 : Int32) (h : hh_) : Option (Int32 × hh_) :=
  gd_ (bo_ h.2.2.1) <|
  (ff_X2_has h.2.2.1 (1 : Int32) a1 h).bind fun v2 =>
  if v2 = 0 then
    some ((-1 : Int32), h)
  else
    if a2 < 0 then
      some ((-1 : Int32), h)
    else
      if a2 ≤ (2 : Int32) then
        gd_ (bi_ a1 4) <|
        gd_ (bi_ a2 3) <|
        some ((ff_X6_tell (h.1 (h.2.2.1 + 14 + Int32.toNatClampNeg a1) (Int32.toNatClampNeg a2)) h).1, (ff_X6_tell (h.1 (h.2.2.1 + 14 + Int32.toNatClampNeg a1) (Int32.toNatClampNeg a2)) h).2)
      else
        some ((-1 : Int32), h)
def ff_X7_post (a1 : Int32) (a2 : Int32) (h : hh_) : Option (Int32 × hh_) :=
  gd_ (bo_ h.2.2.1) <|
  (ff_X2_has h.2.2.1 (2 : Int32) a1 h).bind fun v2 =>
  if v2 = 0 then
    some ((-1 : Int32), h)
  else
    if a2 < 0 then
      some ((-1 : Int32), h)
    else
      if a2 ≤ (4 : Int32) then
        gd_ (bi_ a1 4) <|
        gd_ (bi_ a2 5) <|
        some ((ff_X6_tell (h.1 (h.2.2.1 + 19 + Int32.toNatClampNeg a1) (Int32.toNatClampNeg a2)) h).1, (ff_X6_tell (h.1 (h.2.2.1 + 19 + Int32.toNatClampNeg a1) (Int32.toNatClampNeg a2)) h).2)
      else
        some ((-1 : Int32), h)
def ff_X2_isOf (o : Nat) (a1 : Int32) (a2 : Int32) (h : hh_) : Option (Int32) :=
  gd_ (bi_ a1 4) <|
  if (h.1 (o + 14 + Int32.toNatClampNeg a1) (Int32.toNatClampNeg (0 : Int32))) = a2 then
    some (1 : Int32)
  else
    gd_ (bi_ (h.1 (o + 14 + Int32.toNatClampNeg a1) (Int32.toNatClampNeg (0 : Int32))) 6) <|
    if ((sn_ 5).2.getD (Int32.toNatClampNeg (h.1 (o + 14 + Int32.toNatClampNeg a1) (Int32.toNatClampNeg (0 : Int32)))) 0) = a2 then
      some (1 : Int32)
    else
      some (0 : Int32)
def ff_X2_felt (o : Nat) (a1 : Int32) (a2 : Int32) (a3 : Int32) (h : hh_) : Option (Int32) :=
  gd_ (bi_ a1 5) <|
  gd_ (bi_ a2 5) <|
  if (h.1 (o + 8 + Int32.toNatClampNeg a1) (Int32.toNatClampNeg (4 : Int32))) ≤ (1 : Int32) then
    some ((h.1 (o + 8 + Int32.toNatClampNeg a1) (Int32.toNatClampNeg a2)) + a3)
  else
    if ((h.1 (o + 8 + Int32.toNatClampNeg a1) (Int32.toNatClampNeg a2)) + a3) ≤ 0 then
      some ((h.1 (o + 8 + Int32.toNatClampNeg a1) (Int32.toNatClampNeg a2)) + a3)
    else
      some (((h.1 (o + 8 + Int32.toNatClampNeg a1) (Int32.toNatClampNeg a2)) + a3) - (1 : Int32))
def ff_X2_middle_20 (x0 : Int32) (y0 : Int32) (y1 : Int32) (h : hh_) : Option (Int32) :=
  if 0 ≤ (y0 + y1) then
    gd_ (bi_ x0 6) <|
    if (y0 + y1) ≤ ((sn_ 8).2.getD (Int32.toNatClampNeg x0) 0) then
      some (y0 + y1)
    else
      some ((sn_ 8).2.getD (Int32.toNatClampNeg x0) 0)
  else
    some (0 : Int32)
def ff_X2_middle (a0 : Int32) (a1 : Int32) (a2 : Int32) (h : hh_) : Option (Int32) :=
  gd_ (bi_ a0 6) <|
  if a1 = 0 then
    ff_X2_middle_20 a0 (a2 + ((sn_ 6).2.getD (Int32.toNatClampNeg a0) 0)) (0 : Int32) h
  else
    ff_X2_middle_20 a0 (a2 + ((sn_ 6).2.getD (Int32.toNatClampNeg a0) 0)) ((sn_ 7).2.getD (Int32.toNatClampNeg a0) 0) h
def ff_X2_middleBy_25 (x0 : Nat) (x2 : Int32) (x3 : Int32) (x4 : Int32) (y0 : Int32) (y1 : Int32) (h : hh_) : Option (Int32) :=
  (ff_X2_felt x0 x2 x3 x4 h).bind fun v2 =>
  (ff_X2_middle y0 y1 v2 h).bind fun v4 =>
  some (v4)
def ff_X2_middleBy (o : Nat) (a1 : Int32) (a2 : Int32) (a3 : Int32) (a4 : Int32) (h : hh_) : Option (Int32) :=
  gd_ (bi_ a1 4) <|
  if (h.1 (o + 14 + Int32.toNatClampNeg a1) (Int32.toNatClampNeg (2 : Int32))) = a3 then
    ff_X2_middleBy_25 o a2 a3 a4 (h.1 (o + 14 + Int32.toNatClampNeg a1) (Int32.toNatClampNeg (0 : Int32))) (1 : Int32) h
  else
    ff_X2_middleBy_25 o a2 a3 a4 (h.1 (o + 14 + Int32.toNatClampNeg a1) (Int32.toNatClampNeg (0 : Int32))) (0 : Int32) h
def ff_X1_dull_17 (x0 : Nat) (x1 : Int32) (x3 : Int32) (h : hh_) (K17_50 : Int32 → Option (Int32)) : Nat → Int32 → Int32 → Option (Int32)
  | 0, _, _ => none
  | n9 + 1, x2, x4 =>
    if (4 : Int32) ≤ x4 then
      K17_50 x2
    else
      (ff_X2_middleBy x0 x1 x3 x4 (0 : Int32) h).bind fun v1 =>
      if v1 = (3 : Int32) then
        ff_X1_dull_17 x0 x1 x3 h K17_50 n9 (x2 + (1 : Int32)) (x4 + (1 : Int32))
      else
        ff_X1_dull_17 x0 x1 x3 h K17_50 n9 (x2 + (0 : Int32)) (x4 + (1 : Int32))
def ff_X1_dull_4 (x0 : Nat) (x1 : Int32) (h : hh_) : Nat → Int32 → Int32 → Option (Int32)
  | 0, _, _ => none
  | n9 + 1, x2, x3 =>
    if (h.1 (x0 + 23) (Int32.toNatClampNeg (0 : Int32))) ≤ x3 then
      some (x2)
    else
      ff_X1_dull_17 x0 x1 x3 h (fun u3 =>
        ff_X1_dull_4 x0 x1 h n9 u3 (x3 + (1 : Int32))) FU_ x2 (0 : Int32)
def ff_X1_dull (a0 : Nat) (a1 : Int32) (h : hh_) : Option (Int32) :=
  ff_X1_dull_4 a0 a1 h FU_ (0 : Int32) (0 : Int32)
def ff_X2_least (o : Nat) (a1 : Int32) (a2 : Int32) (a3 : Int32) (a4 : Int32) (h : hh_) : Option (Int32) :=
  (ff_X2_middleBy o a1 a2 a3 a4 h).bind fun v1 =>
  gd_ (bi_ a1 4) <|
  some (if (0 : Int32) < (v1 - (h.1 (o + 14 + Int32.toNatClampNeg a1) (Int32.toNatClampNeg (1 : Int32)))) then (v1 - (h.1 (o + 14 + Int32.toNatClampNeg a1) (Int32.toNatClampNeg (1 : Int32)))) else (0 : Int32))
def ff_X1_clerk_17 (x0 : Nat) (x1 : Int32) (x3 : Int32) (h : hh_) (K17_50 : Int32 → Option (Int32)) : Nat → Int32 → Int32 → Option (Int32)
  | 0, _, _ => none
  | n9 + 1, x2, x4 =>
    if (4 : Int32) ≤ x4 then
      K17_50 x2
    else
      (ff_X2_least x0 x1 x3 x4 (0 : Int32) h).bind fun v1 =>
      (ff_X2_felt x0 x3 x4 (0 : Int32) h).bind fun v3 =>
      ff_X1_clerk_17 x0 x1 x3 h K17_50 n9 (x2 + (v1 - v3)) (x4 + (1 : Int32))
def ff_X1_clerk_4 (x0 : Nat) (x1 : Int32) (h : hh_) : Nat → Int32 → Int32 → Option (Int32)
  | 0, _, _ => none
  | n9 + 1, x2, x3 =>
    if (h.1 (x0 + 23) (Int32.toNatClampNeg (0 : Int32))) ≤ x3 then
      some (x2)
    else
      ff_X1_clerk_17 x0 x1 x3 h (fun u5 =>
        ff_X1_clerk_4 x0 x1 h n9 u5 (x3 + (1 : Int32))) FU_ x2 (0 : Int32)
def ff_X1_clerk (a0 : Nat) (a1 : Int32) (h : hh_) : Option (Int32) :=
  ff_X1_clerk_4 a0 a1 h FU_ (0 : Int32) (0 : Int32)
def ff_X1_hasItsWish_12 (x0 : Nat) (x1 : Int32) (x2 : Int32) (x3 : Int32) (h : hh_) : Nat → Int32 → Option (Int32)
  | 0, _ => none
  | n9 + 1, x4 =>
    if (4 : Int32) ≤ x4 then
      some (1 : Int32)
    else
      if x4 = x3 then
        ff_X1_hasItsWish_12 x0 x1 x2 x3 h n9 (x4 + (1 : Int32))
      else
        (ff_X2_least x0 x1 x2 x4 (0 : Int32) h).bind fun v2 =>
        (ff_X2_least x0 x1 x2 x3 (0 : Int32) h).bind fun v4 =>
        if v2 < v4 then
          ff_X1_hasItsWish_12 x0 x1 x2 x3 h n9 (x4 + (1 : Int32))
        else
          some (0 : Int32)
def ff_X1_hasItsWish (a0 : Nat) (a1 : Int32) (a2 : Int32) (h : hh_) : Option (Int32) :=
  gd_ (bi_ a1 4) <|
  ff_X1_hasItsWish_12 a0 a1 a2 (h.1 (a0 + 14 + Int32.toNatClampNeg a1) (Int32.toNatClampNeg (2 : Int32))) h FU_ (0 : Int32)
def ff_X1_wishing_4 (x0 : Nat) (x1 : Int32) (h : hh_) : Nat → Int32 → Int32 → Option (Int32)
  | 0, _, _ => none
  | n9 + 1, x2, x3 =>
    if (h.1 (x0 + 23) (Int32.toNatClampNeg (0 : Int32))) ≤ x3 then
      some (x2)
    else
      (ff_X1_hasItsWish x0 x1 x3 h).bind fun v1 =>
      if v1 = 0 then
        ff_X1_wishing_4 x0 x1 h n9 (x2 + (0 : Int32)) (x3 + (1 : Int32))
      else
        ff_X1_wishing_4 x0 x1 h n9 (x2 + (1 : Int32)) (x3 + (1 : Int32))
def ff_X1_wishing (a0 : Nat) (a1 : Int32) (h : hh_) : Option (Int32) :=
  ff_X1_wishing_4 a0 a1 h FU_ (0 : Int32) (0 : Int32)
def ff_X2_most (o : Nat) (a1 : Int32) (a2 : Int32) (a3 : Int32) (a4 : Int32) (h : hh_) : Option (Int32) :=
  (ff_X2_middleBy o a1 a2 a3 a4 h).bind fun v1 =>
  gd_ (bi_ a1 4) <|
  some (v1 + (h.1 (o + 14 + Int32.toNatClampNeg a1) (Int32.toNatClampNeg (1 : Int32))))
def ff_X1_light_17 (x0 : Nat) (x1 : Int32) (x3 : Int32) (h : hh_) (K17_43 : Int32 → Option (Int32)) : Nat → Int32 → Int32 → Option (Int32)
  | 0, _, _ => none
  | n9 + 1, x2, x4 =>
    if (4 : Int32) ≤ x4 then
      K17_43 x2
    else
      (ff_X2_most x0 x1 x3 x4 (0 : Int32) h).bind fun v1 =>
      ff_X1_light_17 x0 x1 x3 h K17_43 n9 (if x2 < v1 then v1 else x2) (x4 + (1 : Int32))
def ff_X1_light_4 (x0 : Nat) (x1 : Int32) (h : hh_) : Nat → Int32 → Int32 → Option (Int32)
  | 0, _, _ => none
  | n9 + 1, x2, x3 =>
    if (h.1 (x0 + 23) (Int32.toNatClampNeg (0 : Int32))) ≤ x3 then
      some (x2)
    else
      ff_X1_light_17 x0 x1 x3 h (fun u3 =>
        ff_X1_light_4 x0 x1 h n9 u3 (x3 + (1 : Int32))) FU_ x2 (0 : Int32)
def ff_X1_light (a0 : Nat) (a1 : Int32) (h : hh_) : Option (Int32) :=
  ff_X1_light_4 a0 a1 h FU_ (0 : Int32) (0 : Int32)
def ff_X1_heavy_16 (x0 : Nat) (x2 : Int32) (h : hh_) (K16_45 : Int32 → Option (Int32)) : Nat → Int32 → Int32 → Option (Int32)
  | 0, _, _ => none
  | n9 + 1, x1, x3 =>
    if (4 : Int32) ≤ x3 then
      K16_45 x1
    else
      (ff_X2_felt x0 x2 x3 (0 : Int32) h).bind fun v1 =>
      if v1 = 0 then
        ff_X1_heavy_16 x0 x2 h K16_45 n9 (x1 + (1 : Int32)) (x3 + (1 : Int32))
      else
        ff_X1_heavy_16 x0 x2 h K16_45 n9 (x1 + (0 : Int32)) (x3 + (1 : Int32))
def ff_X1_heavy_4 (x0 : Nat) (h : hh_) : Nat → Int32 → Int32 → Option (Int32)
  | 0, _, _ => none
  | n9 + 1, x1, x2 =>
    if (h.1 (x0 + 23) (Int32.toNatClampNeg (0 : Int32))) ≤ x2 then
      some (x1)
    else
      ff_X1_heavy_16 x0 x2 h (fun u3 =>
        ff_X1_heavy_4 x0 h n9 u3 (x2 + (1 : Int32))) FU_ x1 (0 : Int32)
def ff_X1_heavy (a0 : Nat) (h : hh_) : Option (Int32) :=
  ff_X1_heavy_4 a0 h FU_ (0 : Int32) (0 : Int32)
def ff_X7_mark (a1 : Int32) (a2 : Int32) (h : hh_) : Option (Int32 × hh_) :=
  gd_ (bo_ h.2.2.1) <|
  (ff_X2_has h.2.2.1 (1 : Int32) a1 h).bind fun v2 =>
  if v2 = 0 then
    some ((-1 : Int32), h)
  else
    if a2 < (1 : Int32) then
      some ((-1 : Int32), h)
    else
      if a2 < (6 : Int32) then
        (ff_X2_isOf h.2.2.1 a1 a2 h).bind fun v4 =>
        if v4 = 0 then
          (ff_X6_refuse (3 : Int32) h).bind fun v16 =>
          some (v16.1, v16.2)
        else
          if a2 = (1 : Int32) then
            (ff_X1_heavy h.2.2.1 h).bind fun v14 =>
            some (v14, h)
          else
            if a2 = (2 : Int32) then
              (ff_X1_light h.2.2.1 a1 h).bind fun v12 =>
              some (v12, h)
            else
              if a2 = (3 : Int32) then
                (ff_X1_wishing h.2.2.1 a1 h).bind fun v10 =>
                some (v10, h)
              else
                if a2 = (4 : Int32) then
                  (ff_X1_clerk h.2.2.1 a1 h).bind fun v8 =>
                  some (v8, h)
                else
                  (ff_X1_dull h.2.2.1 a1 h).bind fun v6 =>
                  some (v6, h)
      else
        some ((-1 : Int32), h)
def ff_X7_error (a1 : Int32) (a2 : Int32) (h : hh_) : Option (Int32 × hh_) :=
  gd_ (bo_ h.2.2.1) <|
  (ff_X2_has h.2.2.1 (1 : Int32) a1 h).bind fun v2 =>
  if v2 = 0 then
    some ((-1 : Int32), h)
  else
    if a2 < 0 then
      some ((-1 : Int32), h)
    else
      if a2 ≤ (2 : Int32) then
        gd_ (bi_ a1 4) <|
        some ((h.1 (h.2.2.1 + 14 + Int32.toNatClampNeg a1) (Int32.toNatClampNeg (1 : Int32))), (hh_sI h (h.2.2.1 + 14 + Int32.toNatClampNeg a1) (Int32.toNatClampNeg (1 : Int32)) a2))
      else
        some ((-1 : Int32), h)
def ff_X7_isPlace (a0 : Int32) : Int32 :=
  if a0 < 0 then
    (0 : Int32)
  else
    if (4 : Int32) ≤ a0 then
      (0 : Int32)
    else
      (1 : Int32)
def ff_X2_act (o : Nat) (a1 : Int32) (a2 : Int32) (h : hh_) : Option (hh_) :=
  gd_ (bi_ (h.1 o 6) 40) <|
  gd_ (bi_ ((hh_sI h (o + 24) (Int32.toNatClampNeg (h.1 o 6)) ((a1 * (8 : Int32)) + a2)).1 o 6) 40) <|
  (ff_X2_repeat o ((hh_sI h (o + 24) (Int32.toNatClampNeg (h.1 o 6)) ((a1 * (8 : Int32)) + a2)).1 (o + 24) (Int32.toNatClampNeg ((hh_sI h (o + 24) (Int32.toNatClampNeg (h.1 o 6)) ((a1 * (8 : Int32)) + a2)).1 o 6))) (hh_sI h (o + 24) (Int32.toNatClampNeg (h.1 o 6)) ((a1 * (8 : Int32)) + a2))).bind fun v3 =>
  some (hh_sI v3 o 6 ((v3.1 o 6) + (1 : Int32)))
def ff_X7_pad (a1 : Int32) (a2 : Int32) (h : hh_) : Option (Int32 × hh_) :=
  gd_ (bo_ h.2.2.1) <|
  (ff_X2_has h.2.2.1 (0 : Int32) a1 h).bind fun v2 =>
  if v2 = 0 then
    some ((-1 : Int32), h)
  else
    if (ff_X7_isPlace a2) = 0 then
      some ((-1 : Int32), h)
    else
      gd_ (bi_ a1 5) <|
      gd_ (bi_ a2 5) <|
      if (h.1 (h.2.2.1 + 8 + Int32.toNatClampNeg a1) (Int32.toNatClampNeg a2)) < (5 : Int32) then
        if (h.1 h.2.2.1 6) < (40 : Int32) then
          (ff_X2_act h.2.2.1 a1 a2 h).bind fun v6 =>
          gd_ (bo_ v6.2.2.1) <|
          some ((v6.1 (v6.2.2.1 + 8 + Int32.toNatClampNeg a1) (Int32.toNatClampNeg a2)), v6)
        else
          some ((-2 : Int32), h)
      else
        some ((-4 : Int32), h)
def ff_X7_grow (a1 : Int32) (h : hh_) : Option (Int32 × hh_) :=
  gd_ (bo_ h.2.2.1) <|
  (ff_X2_has h.2.2.1 (0 : Int32) a1 h).bind fun v2 =>
  if v2 = 0 then
    some ((-1 : Int32), h)
  else
    if (h.1 h.2.2.1 6) < (40 : Int32) then
      (ff_X2_act h.2.2.1 a1 (4 : Int32) h).bind fun v4 =>
      gd_ (bo_ v4.2.2.1) <|
      (ff_X2_together v4.2.2.1 a1 v4).bind fun v7 =>
      some (v7, v4)
    else
      some ((-2 : Int32), h)
def ff_X7_cut (a1 : Int32) (a2 : Int32) (h : hh_) : Option (Int32 × hh_) :=
  gd_ (bo_ h.2.2.1) <|
  (ff_X2_has h.2.2.1 (0 : Int32) a1 h).bind fun v2 =>
  if v2 = 0 then
    some ((-1 : Int32), h)
  else
    if a2 < 0 then
      some ((-1 : Int32), h)
    else
      if a2 ≤ (2 : Int32) then
        gd_ (bi_ a1 5) <|
        if a2 < (h.1 (h.2.2.1 + 8 + Int32.toNatClampNeg a1) (Int32.toNatClampNeg (4 : Int32))) then
          if (h.1 h.2.2.1 6) < (40 : Int32) then
            (ff_X2_act h.2.2.1 a1 ((5 : Int32) + a2) h).bind fun v5 =>
            some ((h.1 (h.2.2.1 + 8 + Int32.toNatClampNeg a1) (Int32.toNatClampNeg (4 : Int32))), v5)
          else
            some ((-2 : Int32), h)
        else
          some ((-4 : Int32), h)
      else
        some ((-1 : Int32), h)
def ff_X7_undo (a1 : Int32) (h : hh_) : Option (Int32 × hh_) :=
  if a1 < 0 then
    some ((-1 : Int32), h)
  else
    gd_ (bo_ h.2.2.1) <|
    if a1 ≤ (h.1 h.2.2.1 6) then
      (ff_X2_goBack h.2.2.1 a1 h).bind fun v2 =>
      some (((h.1 h.2.2.1 6) - a1), v2)
    else
      some ((-1 : Int32), h)
def ff_X7_isKeptPlace (a0 : Int32) : Int32 :=
  if a0 < 0 then
    (0 : Int32)
  else
    if (3 : Int32) ≤ a0 then
      (0 : Int32)
    else
      (1 : Int32)
def ff_X0_take_25 (x0 : Nat) (x1 : Nat) : Nat → Int32 → hh_ → Option (hh_)
  | 0, _, _ => none
  | n9 + 1, x2, h =>
    if (4 : Int32) ≤ x2 then
      some (h)
    else
      gd_ (bi_ x2 4) <|
      ff_X0_take_25 x0 x1 n9 (x2 + (1 : Int32)) (hh_sI h (x0 + 2) (Int32.toNatClampNeg x2) (h.1 (x1 + 14 + Int32.toNatClampNeg x2) (Int32.toNatClampNeg (1 : Int32))))
def ff_X0_take (o : Nat) (a1 : Nat) (h : hh_) : Option (hh_) :=
  gd_ (bc_ (0 : Int32) (0 : Int32) (40 : Int32) 40 40) <|
  ff_X0_take_25 o a1 FU_ (0 : Int32) (hh_cp (hh_sI h o 2 (h.1 a1 6)) (a1 + 24) (o + 1) (Int32.toNatClampNeg (0 : Int32)) (Int32.toNatClampNeg (0 : Int32)) (Int32.toNatClampNeg (40 : Int32)))
def ff_X7_keep (a1 : Int32) (h : hh_) : Option (Int32 × hh_) :=
  if (ff_X7_isKeptPlace a1) = 0 then
    some ((-1 : Int32), h)
  else
    gd_ (bo_ h.2.2.1) <|
    if (h.1 (h.2.2.1 + 23) (Int32.toNatClampNeg (0 : Int32))) = 0 then
      some ((-4 : Int32), h)
    else
      gd_ (bi_ a1 3) <|
      (ff_X0_take (89 + 3 * Int32.toNatClampNeg a1) h.2.2.1 h).bind fun v3 =>
      gd_ (bo_ v3.2.2.1) <|
      some ((v3.1 v3.2.2.1 6), v3)
def ff_X0_giveTo_17 (x0 : Nat) (x1 : Nat) : Nat → Int32 → hh_ → Option (hh_)
  | 0, _, _ => none
  | n9 + 1, x2, h =>
    if (4 : Int32) ≤ x2 then
      (ff_X2_goBack x1 (h.1 x0 2) h).bind fun v2 =>
      some (v2)
    else
      gd_ (bi_ x2 4) <|
      ff_X0_giveTo_17 x0 x1 n9 (x2 + (1 : Int32)) (hh_sI h (x1 + 14 + Int32.toNatClampNeg x2) (Int32.toNatClampNeg (1 : Int32)) (h.1 (x0 + 2) (Int32.toNatClampNeg x2)))
def ff_X0_giveTo (o : Nat) (a1 : Nat) (h : hh_) : Option (hh_) :=
  gd_ (bc_ (0 : Int32) (0 : Int32) (40 : Int32) 40 40) <|
  ff_X0_giveTo_17 o a1 FU_ (0 : Int32) (hh_cp h (o + 1) (a1 + 24) (Int32.toNatClampNeg (0 : Int32)) (Int32.toNatClampNeg (0 : Int32)) (Int32.toNatClampNeg (40 : Int32)))
def ff_X7_on (a1 : Int32) (h : hh_) : Option (Int32 × hh_) :=
  if (ff_X7_isKeptPlace a1) = 0 then
    some ((-1 : Int32), h)
  else
    gd_ (bi_ a1 3) <|
    if (h.1 (89 + 3 * Int32.toNatClampNeg a1) 2) = (-1 : Int32) then
      (ff_X6_refuse (1 : Int32) h).bind fun v6 =>
      some (v6.1, v6.2)
    else
      gd_ (bo_ h.2.2.1) <|
      (ff_X0_giveTo (89 + 3 * Int32.toNatClampNeg a1) h.2.2.1 h).bind fun v3 =>
      gd_ (bo_ v3.2.2.1) <|
      some ((v3.1 v3.2.2.1 6), v3)
def ff_X7_reads (a1 : Int32) (a2 : Int32) (a3 : Int32) (h : hh_) : Option (Int32 × hh_) :=
  gd_ (bo_ h.2.2.1) <|
  (ff_X2_has h.2.2.1 (1 : Int32) a1 h).bind fun v2 =>
  if v2 = 0 then
    some ((-1 : Int32), h)
  else
    (ff_X2_has h.2.2.1 (0 : Int32) a2 h).bind fun v4 =>
    if v4 = 0 then
      some ((-1 : Int32), h)
    else
      if (ff_X7_isPlace a3) = 0 then
        some ((-1 : Int32), h)
      else
        (ff_X2_most h.2.2.1 a1 a2 a3 (0 : Int32) h).bind fun v6 =>
        gd_ (bo_ (ff_X6_tell v6 h).2.2.2.1) <|
        (ff_X2_least ((ff_X6_tell v6 h).2.2.2.1) a1 a2 a3 (0 : Int32) (ff_X6_tell v6 h).2).bind fun v9 =>
        some (v9, (ff_X6_tell v6 h).2)
def ff_X7_findingOfReading_30 (x1 : Int32) (h : hh_) : Nat → Int32 → Option (Int32)
  | 0, _ => none
  | n9 + 1, x2 =>
    if (4 : Int32) ≤ x2 then
      some (0 : Int32)
    else
      gd_ (bi_ x1 6) <|
      gd_ (bi_ x2 40) <|
      if (h.1 (4 + Int32.toNatClampNeg x1) (Int32.toNatClampNeg x2)) < 0 then
        some (3 : Int32)
      else
        if (h.1 (4 + Int32.toNatClampNeg x1) (Int32.toNatClampNeg x2)) ≤ (9 : Int32) then
          ff_X7_findingOfReading_30 x1 h n9 (x2 + (1 : Int32))
        else
          some (3 : Int32)
def ff_X7_findingOfReading (a1 : Int32) (h : hh_) : Option (Int32) :=
  (ff_X5r_lacks a1 h).bind fun v1 =>
  if v1 = 0 then
    gd_ (bi_ a1 6) <|
    if (h.1 10 (Int32.toNatClampNeg a1)) = (4 : Int32) then
      ff_X7_findingOfReading_30 a1 h FU_ (0 : Int32)
    else
      some (5 : Int32)
  else
    some (1 : Int32)
def ff_X2_canRead_3 (x0 : Nat) (x1 : Int32) (x2 : Int32) (x3 : Nat) (h : hh_) : Nat → Int32 → Option (Int32)
  | 0, _ => none
  | n9 + 1, x4 =>
    if (4 : Int32) ≤ x4 then
      some (1 : Int32)
    else
      gd_ (bp_ x3 x4) <|
      (ff_X2_least x0 x1 x2 x4 (0 : Int32) h).bind fun v2 =>
      if (h.1 x3 (Int32.toNatClampNeg x4)) < v2 then
        some (0 : Int32)
      else
        (ff_X2_most x0 x1 x2 x4 (0 : Int32) h).bind fun v4 =>
        if (h.1 x3 (Int32.toNatClampNeg x4)) ≤ v4 then
          ff_X2_canRead_3 x0 x1 x2 x3 h n9 (x4 + (1 : Int32))
        else
          some (0 : Int32)
def ff_X2_canRead (o : Nat) (a1 : Int32) (a2 : Int32) (a3 : Nat) (h : hh_) : Option (Int32) :=
  ff_X2_canRead_3 o a1 a2 a3 h FU_ (0 : Int32)
def ff_X7_fits (a1 : Int32) (a2 : Int32) (a3 : Int32) (h : hh_) : Option (Int32 × hh_) :=
  gd_ (bo_ h.2.2.1) <|
  (ff_X2_has h.2.2.1 (1 : Int32) a1 h).bind fun v2 =>
  if v2 = 0 then
    some ((-1 : Int32), h)
  else
    (ff_X2_has h.2.2.1 (0 : Int32) a2 h).bind fun v4 =>
    if v4 = 0 then
      some ((-1 : Int32), h)
    else
      if (ff_X5r_allows a3 h) = 0 then
        some ((-1 : Int32), h)
      else
        (ff_X7_findingOfReading a3 h).bind fun v6 =>
        if v6 = 0 then
          gd_ (bi_ a3 6) <|
          (ff_X2_canRead h.2.2.1 a1 a2 (4 + Int32.toNatClampNeg a3) h).bind fun v9 =>
          if v9 = 0 then
            some ((0 : Int32), h)
          else
            some ((1 : Int32), h)
        else
          (ff_X6_refuse v6 h).bind fun v11 =>
          some (v11.1, v11.2)
def ff_X2_headsThatFit_5 (x0 : Nat) (x1 : Int32) (x2 : Nat) (h : hh_) : Nat → Int32 → Int32 → Option (Int32)
  | 0, _, _ => none
  | n9 + 1, x3, x4 =>
    if (h.1 (x0 + 23) (Int32.toNatClampNeg (0 : Int32))) ≤ x4 then
      some (x3)
    else
      (ff_X2_canRead x0 x1 x4 x2 h).bind fun v1 =>
      if v1 = 0 then
        ff_X2_headsThatFit_5 x0 x1 x2 h n9 x3 (x4 + (1 : Int32))
      else
        ff_X2_headsThatFit_5 x0 x1 x2 h n9 (x3 ||| ((1 : Int32) <<< (x4 &&& 31))) (x4 + (1 : Int32))
def ff_X2_headsThatFit (o : Nat) (a1 : Int32) (a2 : Nat) (h : hh_) : Option (Int32) :=
  ff_X2_headsThatFit_5 o a1 a2 h FU_ (0 : Int32) (0 : Int32)
def ff_X7_whose_50 (x1 : Int32) (x2 : Int32) (h : hh_) (K50_93 : Int32 → Option (Int32 × hh_)) : Nat → Int32 → Int32 → Option (Int32 × hh_)
  | 0, _, _ => none
  | n9 + 1, x4, x5 =>
    gd_ (bo_ h.2.2.1) <|
    if (h.1 (h.2.2.1 + 23) (Int32.toNatClampNeg (1 : Int32))) ≤ x5 then
      K50_93 x4
    else
      gd_ (bi_ x2 6) <|
      (ff_X2_headsThatFit h.2.2.1 x5 (4 + Int32.toNatClampNeg x2) h).bind fun v8 =>
      ff_X7_whose_50 x1 x2 h K50_93 n9 (x4 ||| v8) (x5 + (1 : Int32))
def ff_X7_whose (a1 : Int32) (a2 : Int32) (h : hh_) : Option (Int32 × hh_) :=
  gd_ (bo_ h.2.2.1) <|
  (ff_X2_has h.2.2.1 (1 : Int32) a1 h).bind fun v2 =>
  if v2 = 0 then
    some ((-1 : Int32), h)
  else
    if (ff_X5r_allows a2 h) = 0 then
      some ((-1 : Int32), h)
    else
      (ff_X7_findingOfReading a2 h).bind fun v4 =>
      if v4 = 0 then
        ff_X7_whose_50 a1 a2 h (fun u10 =>
          gd_ (bo_ (ff_X6_tell u10 h).2.2.2.1) <|
          gd_ (bi_ a2 6) <|
          (ff_X2_headsThatFit ((ff_X6_tell u10 h).2.2.2.1) a1 (4 + Int32.toNatClampNeg a2) (ff_X6_tell u10 h).2).bind fun v13 =>
          some (v13, (ff_X6_tell u10 h).2)) FU_ (0 : Int32) (0 : Int32)
      else
        (ff_X6_refuse v4 h).bind fun v15 =>
        some (v15.1, v15.2)
def ff_X7_who_50 (x1 : Int32) (x2 : Int32) (h : hh_) : Nat → Int32 → Int32 → Option (Int32 × hh_)
  | 0, _, _ => none
  | n9 + 1, x4, x5 =>
    gd_ (bo_ h.2.2.1) <|
    if (h.1 (h.2.2.1 + 23) (Int32.toNatClampNeg (1 : Int32))) ≤ x5 then
      some (x4, h)
    else
      gd_ (bi_ x2 6) <|
      (ff_X2_canRead h.2.2.1 x5 x1 (4 + Int32.toNatClampNeg x2) h).bind fun v8 =>
      if v8 = 0 then
        ff_X7_who_50 x1 x2 h n9 x4 (x5 + (1 : Int32))
      else
        ff_X7_who_50 x1 x2 h n9 (x4 ||| ((1 : Int32) <<< (x5 &&& 31))) (x5 + (1 : Int32))
def ff_X7_who (a1 : Int32) (a2 : Int32) (h : hh_) : Option (Int32 × hh_) :=
  gd_ (bo_ h.2.2.1) <|
  (ff_X2_has h.2.2.1 (0 : Int32) a1 h).bind fun v2 =>
  if v2 = 0 then
    some ((-1 : Int32), h)
  else
    if (ff_X5r_allows a2 h) = 0 then
      some ((-1 : Int32), h)
    else
      (ff_X7_findingOfReading a2 h).bind fun v4 =>
      if v4 = 0 then
        ff_X7_who_50 a1 a2 h FU_ (0 : Int32) (0 : Int32)
      else
        (ff_X6_refuse v4 h).bind fun v10 =>
        some (v10.1, v10.2)
def ff_X2_ways (o : Nat) (a1 : Int32) (a2 : Int32) (a3 : Int32) (h : hh_) : Option (Int32) :=
  (ff_X2_most o a1 a2 a3 (0 : Int32) h).bind fun v1 =>
  (ff_X2_least o a1 a2 a3 (0 : Int32) h).bind fun v3 =>
  some (if (1 : Int32) < ((v1 - v3) + (1 : Int32)) then ((v1 - v3) + (1 : Int32)) else (1 : Int32))
def ff_X2_weight_46 (x0 : Nat) (x1 : Int32) (x2 : Int32) (x3 : Int32) (x6 : Int32) (h : hh_) (K46_73 : Int64 → Option (Int64)) : Nat → Int64 → Int32 → Option (Int64)
  | 0, _, _ => none
  | n9 + 1, x4, x7 =>
    if (4 : Int32) ≤ x7 then
      K46_73 x4
    else
      (ff_X2_ways x0 x1 x6 x7 h).bind fun v1 =>
      ff_X2_weight_46 x0 x1 x2 x3 x6 h K46_73 n9 (x4 * (Int32.toInt64 v1)) (x7 + (1 : Int32))
def ff_X2_weight_16 (x0 : Nat) (x1 : Int32) (x2 : Int32) (x3 : Int32) (h : hh_) : Nat → Int64 → Int32 → Option (Int64)
  | 0, _, _ => none
  | n9 + 1, x4, x6 =>
    if (h.1 (x0 + 23) (Int32.toNatClampNeg (0 : Int32))) ≤ x6 then
      some (x4)
    else
      if x6 = x2 then
        ff_X2_weight_16 x0 x1 x2 x3 h n9 x4 (x6 + (1 : Int32))
      else
        if ((x3 >>> (x6 &&& 31)) &&& (1 : Int32)) = (1 : Int32) then
          ff_X2_weight_46 x0 x1 x2 x3 x6 h (fun u3 =>
            ff_X2_weight_16 x0 x1 x2 x3 h n9 u3 (x6 + (1 : Int32))) FU_ x4 (0 : Int32)
        else
          ff_X2_weight_16 x0 x1 x2 x3 h n9 x4 (x6 + (1 : Int32))
def ff_X2_weight (o : Nat) (a1 : Int32) (a2 : Int32) (a3 : Int32) (h : hh_) : Option (Int64) :=
  if ((a3 >>> (a2 &&& 31)) &&& (1 : Int32)) = 0 then
    some (0 : Int64)
  else
    ff_X2_weight_16 o a1 a2 a3 h FU_ (1 : Int64) (0 : Int32)
def ff_X6_commonDivisor_3 : Nat → Int64 → Int64 → Int32 → Option (Int64)
  | 0, _, _, _ => none
  | n9 + 1, x0, x2, x4 =>
    if (100 : Int32) ≤ x4 then
      some (x0)
    else
      if (lg_cmp x2 (0 : Int64)) = 0 then
        some (x0)
      else
        gd_ (bm_ x2) <|
        ff_X6_commonDivisor_3 n9 x2 (x0 - x0 / x2 * x2) (x4 + (1 : Int32))
def ff_X6_commonDivisor (a0 : Int64) (a2 : Int64) : Option (Int64) :=
  ff_X6_commonDivisor_3 FU_ a0 a2 (0 : Int32)
def ff_X6_tellFraction (a1 : Int64) (a3 : Int64) (h : hh_) : Option (Int32 × hh_) :=
  (ff_X6_commonDivisor a1 a3).bind fun v1 =>
  if (lg_cmp v1 (0 : Int64)) = 0 then
    some ((1 : Int32), h)
  else
    gd_ (bm_ v1) <|
    some ((1 : Int32), (hh_sL (hh_sL h 36 3 (a1 / v1)) 36 4 (a3 / v1)))
def ff_X7_odds_98 (x1 : Int32) (x2 : Int32) (x5 : Int32) (h : hh_) : Nat → Int64 → Int32 → Option (Int32 × hh_)
  | 0, _, _ => none
  | n9 + 1, x6, x8 =>
    gd_ (bo_ h.2.2.1) <|
    if (h.1 (h.2.2.1 + 23) (Int32.toNatClampNeg (0 : Int32))) ≤ x8 then
      (ff_X2_weight h.2.2.1 x1 x2 x5 h).bind fun v12 =>
      (ff_X6_tellFraction v12 x6 h).bind fun v14 =>
      some (v14.1, v14.2)
    else
      (ff_X2_weight h.2.2.1 x1 x8 x5 h).bind fun v16 =>
      ff_X7_odds_98 x1 x2 x5 h n9 (x6 + v16) (x8 + (1 : Int32))
def ff_X7_odds (a1 : Int32) (a2 : Int32) (a3 : Int32) (h : hh_) : Option (Int32 × hh_) :=
  gd_ (bo_ h.2.2.1) <|
  (ff_X2_has h.2.2.1 (1 : Int32) a1 h).bind fun v2 =>
  if v2 = 0 then
    some ((-1 : Int32), h)
  else
    (ff_X2_has h.2.2.1 (0 : Int32) a2 h).bind fun v4 =>
    if v4 = 0 then
      some ((-1 : Int32), h)
    else
      if (ff_X5r_allows a3 h) = 0 then
        some ((-1 : Int32), h)
      else
        (ff_X7_findingOfReading a3 h).bind fun v6 =>
        if v6 = 0 then
          gd_ (bi_ a3 6) <|
          (ff_X2_headsThatFit h.2.2.1 a1 (4 + Int32.toNatClampNeg a3) h).bind fun v9 =>
          if v9 = 0 then
            (ff_X6_refuse (4 : Int32) h).bind fun v18 =>
            some (v18.1, v18.2)
          else
            ff_X7_odds_98 a1 a2 v9 h FU_ (0 : Int64) (0 : Int32)
        else
          (ff_X6_refuse v6 h).bind fun v20 =>
          some (v20.1, v20.2)
def ff_X2_isApart (o : Nat) (a1 : Int32) (a2 : Int32) (a3 : Int32) (a4 : Int32) (h : hh_) : Option (Int32) :=
  (ff_X2_least o a1 a2 a4 (0 : Int32) h).bind fun v1 =>
  (ff_X2_most o a1 a3 a4 (0 : Int32) h).bind fun v3 =>
  if v3 < v1 then
    some (1 : Int32)
  else
    (ff_X2_least o a1 a3 a4 (0 : Int32) h).bind fun v5 =>
    (ff_X2_most o a1 a2 a4 (0 : Int32) h).bind fun v7 =>
    if v5 ≤ v7 then
      some (0 : Int32)
    else
      some (1 : Int32)
def ff_X2_pairsApart_19 (x0 : Nat) (x1 : Int32) (x2 : Int32) (x4 : Int32) (h : hh_) (K19_53 : Int32 → Option (Int32)) : Nat → Int32 → Int32 → Option (Int32)
  | 0, _, _ => none
  | n9 + 1, x3, x5 =>
    if x4 ≤ x5 then
      K19_53 x3
    else
      (ff_X2_isApart x0 x1 x4 x5 x2 h).bind fun v1 =>
      if v1 = 0 then
        ff_X2_pairsApart_19 x0 x1 x2 x4 h K19_53 n9 (x3 + (0 : Int32)) (x5 + (1 : Int32))
      else
        ff_X2_pairsApart_19 x0 x1 x2 x4 h K19_53 n9 (x3 + (1 : Int32)) (x5 + (1 : Int32))
def ff_X2_pairsApart_5 (x0 : Nat) (x1 : Int32) (x2 : Int32) (h : hh_) : Nat → Int32 → Int32 → Option (Int32)
  | 0, _, _ => none
  | n9 + 1, x3, x4 =>
    if (h.1 (x0 + 23) (Int32.toNatClampNeg (0 : Int32))) ≤ x4 then
      some (x3)
    else
      ff_X2_pairsApart_19 x0 x1 x2 x4 h (fun u3 =>
        ff_X2_pairsApart_5 x0 x1 x2 h n9 u3 (x4 + (1 : Int32))) FU_ x3 (0 : Int32)
def ff_X2_pairsApart (o : Nat) (a1 : Int32) (a2 : Int32) (h : hh_) : Option (Int32) :=
  ff_X2_pairsApart_5 o a1 a2 h FU_ (0 : Int32) (0 : Int32)
def ff_X7_look_21 (x1 : Int32) (h : hh_) : Nat → Int32 → Int32 → Int32 → Option (Int32 × hh_)
  | 0, _, _, _ => none
  | n9 + 1, x2, x3, x4 =>
    if (4 : Int32) ≤ x4 then
      some (x2, (ff_X6_tell x3 h).2)
    else
      gd_ (bo_ h.2.2.1) <|
      (ff_X2_pairsApart h.2.2.1 x1 x4 h).bind fun v5 =>
      if v5 ≤ x3 then
        ff_X7_look_21 x1 h n9 x2 x3 (x4 + (1 : Int32))
      else
        ff_X7_look_21 x1 h n9 x4 v5 (x4 + (1 : Int32))
def ff_X7_look (a1 : Int32) (h : hh_) : Option (Int32 × hh_) :=
  gd_ (bo_ h.2.2.1) <|
  (ff_X2_has h.2.2.1 (1 : Int32) a1 h).bind fun v2 =>
  if v2 = 0 then
    some ((-1 : Int32), h)
  else
    ff_X7_look_21 a1 h FU_ (0 : Int32) (-1 : Int32) (0 : Int32)
def ff_X2_maySeem_3 (x0 : Nat) (x1 : Int32) (x2 : Int32) (x3 : Int32) (h : hh_) : Nat → Int32 → Option (Int32)
  | 0, _ => none
  | n9 + 1, x4 =>
    if (4 : Int32) ≤ x4 then
      some (1 : Int32)
    else
      (ff_X2_isApart x0 x1 x2 x3 x4 h).bind fun v1 =>
      if v1 = 0 then
        ff_X2_maySeem_3 x0 x1 x2 x3 h n9 (x4 + (1 : Int32))
      else
        some (0 : Int32)
def ff_X2_maySeem (o : Nat) (a1 : Int32) (a2 : Int32) (a3 : Int32) (h : hh_) : Option (Int32) :=
  ff_X2_maySeem_3 o a1 a2 a3 h FU_ (0 : Int32)
def ff_X7_alike_31 (x1 : Int32) (x2 : Int32) (h : hh_) : Nat → Int32 → Int32 → Option (Int32)
  | 0, _, _ => none
  | n9 + 1, x3, x4 =>
    gd_ (bo_ h.2.2.1) <|
    if (h.1 (h.2.2.1 + 23) (Int32.toNatClampNeg (0 : Int32))) ≤ x4 then
      some (x3)
    else
      (ff_X2_maySeem h.2.2.1 x1 x2 x4 h).bind fun v7 =>
      if v7 = 0 then
        ff_X7_alike_31 x1 x2 h n9 x3 (x4 + (1 : Int32))
      else
        ff_X7_alike_31 x1 x2 h n9 (x3 ||| ((1 : Int32) <<< (x4 &&& 31))) (x4 + (1 : Int32))
def ff_X7_alike (a1 : Int32) (a2 : Int32) (h : hh_) : Option (Int32) :=
  gd_ (bo_ h.2.2.1) <|
  (ff_X2_has h.2.2.1 (1 : Int32) a1 h).bind fun v2 =>
  if v2 = 0 then
    some (-1 : Int32)
  else
    (ff_X2_has h.2.2.1 (0 : Int32) a2 h).bind fun v4 =>
    if v4 = 0 then
      some (-1 : Int32)
    else
      ff_X7_alike_31 a1 a2 h FU_ (0 : Int32) (0 : Int32)
def ff_X2_isSure_26 (x0 : Nat) (x1 : Int32) (x2 : Int32) (x3 : Int32) (x4 : Int32) (x5 : Int32) (y1 : Int32) (y2 : Int32) (y3 : Int32) (y4 : Int32) (h : hh_) (K26_3 : Int32 → Option (Int32)) : Option (Int32) :=
  (ff_X2_least x0 y1 y2 y3 y4 h).bind fun v1 =>
  gd_ (bi_ x3 4) <|
  gd_ (bi_ x5 5) <|
  if (h.1 (x0 + 19 + Int32.toNatClampNeg x3) (Int32.toNatClampNeg x5)) ≤ v1 then
    K26_3 (x5 + (1 : Int32))
  else
    some (0 : Int32)
def ff_X2_isSure_3 (x0 : Nat) (x1 : Int32) (x2 : Int32) (x3 : Int32) (x4 : Int32) (h : hh_) : Nat → Int32 → Option (Int32)
  | 0, _ => none
  | n9 + 1, x5 =>
    if (4 : Int32) ≤ x5 then
      some (1 : Int32)
    else
      if x5 = x4 then
        ff_X2_isSure_26 x0 x1 x2 x3 x4 x5 x1 x2 x5 (1 : Int32) h (fun z5 => ff_X2_isSure_3 x0 x1 x2 x3 x4 h n9 z5)
      else
        ff_X2_isSure_26 x0 x1 x2 x3 x4 x5 x1 x2 x5 (0 : Int32) h (fun z5 => ff_X2_isSure_3 x0 x1 x2 x3 x4 h n9 z5)
def ff_X2_isSure (o : Nat) (a1 : Int32) (a2 : Int32) (a3 : Int32) (a4 : Int32) (h : hh_) : Option (Int32) :=
  ff_X2_isSure_3 o a1 a2 a3 a4 h FU_ (0 : Int32)
def ff_X2_isLucky_3 (x0 : Nat) (x1 : Int32) (x2 : Int32) (x3 : Int32) (h : hh_) : Nat → Int32 → Option (Int32)
  | 0, _ => none
  | n9 + 1, x4 =>
    if (4 : Int32) ≤ x4 then
      some (1 : Int32)
    else
      (ff_X2_most x0 x1 x2 x4 (0 : Int32) h).bind fun v1 =>
      gd_ (bi_ x3 4) <|
      gd_ (bi_ x4 5) <|
      if (h.1 (x0 + 19 + Int32.toNatClampNeg x3) (Int32.toNatClampNeg x4)) ≤ v1 then
        ff_X2_isLucky_3 x0 x1 x2 x3 h n9 (x4 + (1 : Int32))
      else
        some (0 : Int32)
def ff_X2_isLucky (o : Nat) (a1 : Int32) (a2 : Int32) (a3 : Int32) (h : hh_) : Option (Int32) :=
  ff_X2_isLucky_3 o a1 a2 a3 h FU_ (0 : Int32)
def ff_X7_suits (a1 : Int32) (a2 : Int32) (a3 : Int32) (h : hh_) : Option (Int32) :=
  gd_ (bo_ h.2.2.1) <|
  (ff_X2_has h.2.2.1 (1 : Int32) a1 h).bind fun v2 =>
  if v2 = 0 then
    some (-1 : Int32)
  else
    (ff_X2_has h.2.2.1 (0 : Int32) a2 h).bind fun v4 =>
    if v4 = 0 then
      some (-1 : Int32)
    else
      (ff_X2_has h.2.2.1 (2 : Int32) a3 h).bind fun v6 =>
      if v6 = 0 then
        some (-1 : Int32)
      else
        (ff_X2_isSure h.2.2.1 a1 a2 a3 (-9 : Int32) h).bind fun v8 =>
        if v8 = 0 then
          (ff_X2_isLucky h.2.2.1 a1 a2 a3 h).bind fun v10 =>
          if v10 = 0 then
            some (0 : Int32)
          else
            some (1 : Int32)
        else
          some (2 : Int32)
def ff_X7_luck_47 (x1 : Int32) (x2 : Int32) (x3 : Int32) (h : hh_) : Nat → Int64 → Int64 → Int32 → Option (Int32 × hh_)
  | 0, _, _, _ => none
  | n9 + 1, x4, x6, x8 =>
    if (4 : Int32) ≤ x8 then
      (ff_X6_tellFraction x4 x6 h).bind fun v8 =>
      some (v8.1, v8.2)
    else
      gd_ (bo_ h.2.2.1) <|
      (ff_X2_least h.2.2.1 x1 x2 x8 (0 : Int32) h).bind fun v11 =>
      (ff_X2_most h.2.2.1 x1 x2 x8 (0 : Int32) h).bind fun v13 =>
      gd_ (bi_ x3 4) <|
      gd_ (bi_ x8 5) <|
      (ff_X2_ways h.2.2.1 x1 x2 x8 h).bind fun v17 =>
      ff_X7_luck_47 x1 x2 x3 h n9 (x4 * (Int32.toInt64 (if (0 : Int32) < ((v13 - (if v11 < (h.1 (h.2.2.1 + 19 + Int32.toNatClampNeg x3) (Int32.toNatClampNeg x8)) then (h.1 (h.2.2.1 + 19 + Int32.toNatClampNeg x3) (Int32.toNatClampNeg x8)) else v11)) + (1 : Int32)) then ((v13 - (if v11 < (h.1 (h.2.2.1 + 19 + Int32.toNatClampNeg x3) (Int32.toNatClampNeg x8)) then (h.1 (h.2.2.1 + 19 + Int32.toNatClampNeg x3) (Int32.toNatClampNeg x8)) else v11)) + (1 : Int32)) else (0 : Int32)))) (x6 * (Int32.toInt64 v17)) (x8 + (1 : Int32))
def ff_X7_luck (a1 : Int32) (a2 : Int32) (a3 : Int32) (h : hh_) : Option (Int32 × hh_) :=
  gd_ (bo_ h.2.2.1) <|
  (ff_X2_has h.2.2.1 (1 : Int32) a1 h).bind fun v2 =>
  if v2 = 0 then
    some ((-1 : Int32), h)
  else
    (ff_X2_has h.2.2.1 (0 : Int32) a2 h).bind fun v4 =>
    if v4 = 0 then
      some ((-1 : Int32), h)
    else
      (ff_X2_has h.2.2.1 (2 : Int32) a3 h).bind fun v6 =>
      if v6 = 0 then
        some ((-1 : Int32), h)
      else
        ff_X7_luck_47 a1 a2 a3 h FU_ (1 : Int64) (1 : Int64) (0 : Int32)
def ff_X2_fewestPads_3 (x0 : Nat) (x1 : Int32) (x2 : Int32) (x3 : Int32) (x4 : Int32) (h : hh_) : Nat → Int32 → Option (Int32)
  | 0, _ => none
  | n9 + 1, x5 =>
    gd_ (bi_ x2 5) <|
    gd_ (bi_ x4 5) <|
    if (5 : Int32) < ((h.1 (x0 + 8 + Int32.toNatClampNeg x2) (Int32.toNatClampNeg x4)) + x5) then
      some (-9 : Int32)
    else
      (ff_X2_least x0 x1 x2 x4 x5 h).bind fun v3 =>
      gd_ (bi_ x3 4) <|
      if v3 < (h.1 (x0 + 19 + Int32.toNatClampNeg x3) (Int32.toNatClampNeg x4)) then
        ff_X2_fewestPads_3 x0 x1 x2 x3 x4 h n9 (x5 + (1 : Int32))
      else
        some (x5)
def ff_X2_fewestPads (o : Nat) (a1 : Int32) (a2 : Int32) (a3 : Int32) (a4 : Int32) (h : hh_) : Option (Int32) :=
  ff_X2_fewestPads_3 o a1 a2 a3 a4 h FU_ (0 : Int32)
def ff_X7_pads_56 (x1 : Int32) (x2 : Int32) (x3 : Int32) (x4 : Int32) (h : hh_) (K56_99 : Int32 → Option (Int32 × hh_)) : Nat → Int32 → Int32 → Option (Int32 × hh_)
  | 0, _, _ => none
  | n9 + 1, x5, x6 =>
    if (4 : Int32) ≤ x6 then
      K56_99 x5
    else
      gd_ (bo_ h.2.2.1) <|
      (ff_X2_fewestPads h.2.2.1 x1 x2 x3 x6 h).bind fun v9 =>
      if v9 = (-9 : Int32) then
        some ((-9 : Int32), h)
      else
        ff_X7_pads_56 x1 x2 x3 x4 h K56_99 n9 (x5 + v9) (x6 + (1 : Int32))
def ff_X7_pads_113 (x1 : Int32) (x2 : Int32) (x3 : Int32) (x4 : Int32) (x5 : Int32) : Nat → Int32 → hh_ → Option (Int32 × hh_)
  | 0, _, _ => none
  | n9 + 1, x6, h =>
    if (4 : Int32) ≤ x6 then
      some (x5, h)
    else
      gd_ (bi_ x4 6) <|
      gd_ (bo_ h.2.2.1) <|
      (ff_X2_fewestPads h.2.2.1 x1 x2 x3 x6 h).bind fun v16 =>
      gd_ (bi_ x6 40) <|
      ff_X7_pads_113 x1 x2 x3 x4 x5 n9 (x6 + (1 : Int32)) (hh_sI h (4 + Int32.toNatClampNeg x4) (Int32.toNatClampNeg x6) v16)
def ff_X7_pads (a1 : Int32) (a2 : Int32) (a3 : Int32) (a4 : Int32) (h : hh_) : Option (Int32 × hh_) :=
  gd_ (bo_ h.2.2.1) <|
  (ff_X2_has h.2.2.1 (1 : Int32) a1 h).bind fun v2 =>
  if v2 = 0 then
    some ((-1 : Int32), h)
  else
    (ff_X2_has h.2.2.1 (0 : Int32) a2 h).bind fun v4 =>
    if v4 = 0 then
      some ((-1 : Int32), h)
    else
      (ff_X2_has h.2.2.1 (2 : Int32) a3 h).bind fun v6 =>
      if v6 = 0 then
        some ((-1 : Int32), h)
      else
        if (ff_X5r_allows a4 h) = 0 then
          some ((-1 : Int32), h)
        else
          ff_X7_pads_56 a1 a2 a3 a4 h (fun u11 =>
            (ff_X5r_renew a4 (4 : Int32) (0 : Int32) h).bind fun v12 =>
            ff_X7_pads_113 a1 a2 a3 a4 u11 FU_ (0 : Int32) v12) FU_ (0 : Int32) (0 : Int32)
def ff_X7_all_58 (x1 : Int32) (x2 : Int32) (x3 : Int32) (x4 : Int32) (h : hh_) (K58_112 : Int32 → Option (Int32)) : Nat → Int32 → Int32 → Option (Int32)
  | 0, _, _ => none
  | n9 + 1, x5, x6 =>
    gd_ (bo_ h.2.2.1) <|
    if (h.1 (h.2.2.1 + 23) (Int32.toNatClampNeg (1 : Int32))) ≤ x6 then
      K58_112 x5
    else
      (ff_X2_fewestPads h.2.2.1 x6 x1 x2 x4 h).bind fun v7 =>
      if v7 = (-9 : Int32) then
        some (-9 : Int32)
      else
        ff_X7_all_58 x1 x2 x3 x4 h K58_112 n9 (if x5 < v7 then v7 else x5) (x6 + (1 : Int32))
def ff_X7_all_46 (x1 : Int32) (x2 : Int32) (h : hh_) : Nat → Int32 → Int32 → Option (Int32)
  | 0, _, _ => none
  | n9 + 1, x3, x4 =>
    if (4 : Int32) ≤ x4 then
      some (x3)
    else
      ff_X7_all_58 x1 x2 x3 x4 h (fun u9 =>
        ff_X7_all_46 x1 x2 h n9 (x3 + u9) (x4 + (1 : Int32))) FU_ (0 : Int32) (0 : Int32)
def ff_X7_all (a1 : Int32) (a2 : Int32) (h : hh_) : Option (Int32) :=
  gd_ (bo_ h.2.2.1) <|
  (ff_X2_has h.2.2.1 (0 : Int32) a1 h).bind fun v2 =>
  if v2 = 0 then
    some (-1 : Int32)
  else
    (ff_X2_has h.2.2.1 (2 : Int32) a2 h).bind fun v4 =>
    if v4 = 0 then
      some (-1 : Int32)
    else
      if (h.1 (h.2.2.1 + 23) (Int32.toNatClampNeg (1 : Int32))) = 0 then
        some (-4 : Int32)
      else
        ff_X7_all_46 a1 a2 h FU_ (0 : Int32) (0 : Int32)
def ff_X7_finds_54 (x1 : Int32) (x2 : Int32) (x3 : Int32) (h : hh_) : Nat → Int32 → Option (Int32)
  | 0, _ => none
  | n9 + 1, x4 =>
    gd_ (bo_ h.2.2.1) <|
    if (h.1 (h.2.2.1 + 23) (Int32.toNatClampNeg (1 : Int32))) ≤ x4 then
      some (-9 : Int32)
    else
      if x4 = x1 then
        ff_X7_finds_54 x1 x2 x3 h n9 (x4 + (1 : Int32))
      else
        (ff_X2_least h.2.2.1 x4 x2 x3 (1 : Int32) h).bind fun v9 =>
        (ff_X2_most h.2.2.1 x4 x2 x3 (0 : Int32) h).bind fun v11 =>
        if v9 ≤ v11 then
          ff_X7_finds_54 x1 x2 x3 h n9 (x4 + (1 : Int32))
        else
          some (x4)
def ff_X7_finds (a1 : Int32) (a2 : Int32) (a3 : Int32) (h : hh_) : Option (Int32) :=
  gd_ (bo_ h.2.2.1) <|
  (ff_X2_has h.2.2.1 (1 : Int32) a1 h).bind fun v2 =>
  if v2 = 0 then
    some (-1 : Int32)
  else
    (ff_X2_has h.2.2.1 (0 : Int32) a2 h).bind fun v4 =>
    if v4 = 0 then
      some (-1 : Int32)
    else
      if (ff_X7_isPlace a3) = 0 then
        some (-1 : Int32)
      else
        gd_ (bi_ a2 5) <|
        gd_ (bi_ a3 5) <|
        if (h.1 (h.2.2.1 + 8 + Int32.toNatClampNeg a2) (Int32.toNatClampNeg a3)) < (5 : Int32) then
          ff_X7_finds_54 a1 a2 a3 h FU_ (0 : Int32)
        else
          some (-4 : Int32)
def ff_X2_surePosts_6 (x0 : Nat) (x1 : Int32) (x2 : Int32) (x3 : Int32) (h : hh_) : Nat → Int32 → Int32 → Option (Int32)
  | 0, _, _ => none
  | n9 + 1, x4, x5 =>
    if (h.1 (x0 + 23) (Int32.toNatClampNeg (2 : Int32))) ≤ x5 then
      some (x4)
    else
      (ff_X2_isSure x0 x1 x2 x5 x3 h).bind fun v1 =>
      if v1 = 0 then
        ff_X2_surePosts_6 x0 x1 x2 x3 h n9 x4 (x5 + (1 : Int32))
      else
        ff_X2_surePosts_6 x0 x1 x2 x3 h n9 (x4 ||| ((1 : Int32) <<< (x5 &&& 31))) (x5 + (1 : Int32))
def ff_X2_surePosts (o : Nat) (a1 : Int32) (a2 : Int32) (a3 : Int32) (h : hh_) : Option (Int32) :=
  ff_X2_surePosts_6 o a1 a2 a3 h FU_ (0 : Int32) (0 : Int32)
def ff_X7_posts_31 (x1 : Int32) (x2 : Int32) (h : hh_) : Nat → Int32 → Int32 → Option (Int32 × hh_)
  | 0, _, _ => none
  | n9 + 1, x3, x4 =>
    gd_ (bo_ h.2.2.1) <|
    if (h.1 (h.2.2.1 + 23) (Int32.toNatClampNeg (2 : Int32))) ≤ x4 then
      gd_ (bo_ (ff_X6_tell x3 h).2.2.2.1) <|
      (ff_X2_surePosts ((ff_X6_tell x3 h).2.2.2.1) x1 x2 (-9 : Int32) (ff_X6_tell x3 h).2).bind fun v8 =>
      some (v8, (ff_X6_tell x3 h).2)
    else
      (ff_X2_isLucky h.2.2.1 x1 x2 x4 h).bind fun v10 =>
      if v10 = 0 then
        ff_X7_posts_31 x1 x2 h n9 x3 (x4 + (1 : Int32))
      else
        ff_X7_posts_31 x1 x2 h n9 (x3 ||| ((1 : Int32) <<< (x4 &&& 31))) (x4 + (1 : Int32))
def ff_X7_posts (a1 : Int32) (a2 : Int32) (h : hh_) : Option (Int32 × hh_) :=
  gd_ (bo_ h.2.2.1) <|
  (ff_X2_has h.2.2.1 (1 : Int32) a1 h).bind fun v2 =>
  if v2 = 0 then
    some ((-1 : Int32), h)
  else
    (ff_X2_has h.2.2.1 (0 : Int32) a2 h).bind fun v4 =>
    if v4 = 0 then
      some ((-1 : Int32), h)
    else
      ff_X7_posts_31 a1 a2 h FU_ (0 : Int32) (0 : Int32)
def ff_X3_openByOne_2 (x1 : Nat) (x2 : Int32) : Nat → Int32 → hh_ → Option (hh_)
  | 0, _, _ => none
  | n9 + 1, x3, h =>
    if (h.1 (x1 + 23) (Int32.toNatClampNeg (0 : Int32))) ≤ x3 then
      some (h)
    else
      (ff_X2_surePosts x1 x2 x3 (-9 : Int32) h).bind fun v1 =>
      gd_ (bi_ x3 5) <|
      ff_X3_openByOne_2 x1 x2 n9 (x3 + (1 : Int32)) (hh_sI h 21 (Int32.toNatClampNeg x3) v1)
def ff_X3_openByOne (a1 : Nat) (a2 : Int32) (h : hh_) : Option (hh_) :=
  ff_X3_openByOne_2 a1 a2 FU_ (0 : Int32) h
def ff_X3_isFree (a1 : Int32) (a2 : Int32) (a3 : Int32) (h : hh_) : Option (Int32) :=
  gd_ (bi_ a1 5) <|
  if (((h.1 21 (Int32.toNatClampNeg a1)) &&& (a3 ^^^ (-1 : Int32))) &&& ((1 : Int32) <<< (a2 &&& 31))) = 0 then
    some (0 : Int32)
  else
    some (1 : Int32)
def ff_X3_payBy (a1 : Nat) (a2 : Int32) (a3 : Int32) (a4 : Int32) (h : hh_) : Option (Int32) :=
  gd_ (bi_ a3 4) <|
  gd_ (bi_ (a2 + (1 : Int32)) 6) <|
  gd_ (bi_ (a4 ||| ((1 : Int32) <<< (a3 &&& 31))) 16) <|
  some ((h.1 (a1 + 19 + Int32.toNatClampNeg a3) (Int32.toNatClampNeg (4 : Int32))) + (h.1 (23 + Int32.toNatClampNeg (a2 + (1 : Int32))) (Int32.toNatClampNeg (a4 ||| ((1 : Int32) <<< (a3 &&& 31))))))
def ff_X3_reckonFrom_39 (x1 : Nat) (x2 : Int32) (x3 : Int32) : Nat → Int32 → hh_ → Option (hh_)
  | 0, _, _ => none
  | n9 + 1, x4, h =>
    if (h.1 (x1 + 23) (Int32.toNatClampNeg (2 : Int32))) ≤ x4 then
      some (h)
    else
      (ff_X3_isFree x2 x4 x3 h).bind fun v4 =>
      if v4 = 0 then
        ff_X3_reckonFrom_39 x1 x2 x3 n9 (x4 + (1 : Int32)) h
      else
        gd_ (bi_ x2 6) <|
        gd_ (bi_ x3 16) <|
        (ff_X3_payBy x1 x2 x4 x3 h).bind fun v8 =>
        gd_ (bi_ (x2 + (1 : Int32)) 6) <|
        gd_ (bi_ (x3 ||| ((1 : Int32) <<< (x4 &&& 31))) 16) <|
        ff_X3_reckonFrom_39 x1 x2 x3 n9 (x4 + (1 : Int32)) (hh_sI (hh_sI h (23 + Int32.toNatClampNeg x2) (Int32.toNatClampNeg x3) (if (h.1 (23 + Int32.toNatClampNeg x2) (Int32.toNatClampNeg x3)) < v8 then v8 else (h.1 (23 + Int32.toNatClampNeg x2) (Int32.toNatClampNeg x3)))) (30 + Int32.toNatClampNeg x2) (Int32.toNatClampNeg x3) (((hh_sI h (23 + Int32.toNatClampNeg x2) (Int32.toNatClampNeg x3) (if (h.1 (23 + Int32.toNatClampNeg x2) (Int32.toNatClampNeg x3)) < v8 then v8 else (h.1 (23 + Int32.toNatClampNeg x2) (Int32.toNatClampNeg x3)))).1 (30 + Int32.toNatClampNeg x2) (Int32.toNatClampNeg x3)) + ((hh_sI h (23 + Int32.toNatClampNeg x2) (Int32.toNatClampNeg x3) (if (h.1 (23 + Int32.toNatClampNeg x2) (Int32.toNatClampNeg x3)) < v8 then v8 else (h.1 (23 + Int32.toNatClampNeg x2) (Int32.toNatClampNeg x3)))).1 (30 + Int32.toNatClampNeg (x2 + (1 : Int32))) (Int32.toNatClampNeg (x3 ||| ((1 : Int32) <<< (x4 &&& 31)))))))
def ff_X3_reckonFrom (a1 : Nat) (a2 : Int32) (a3 : Int32) (h : hh_) : Option (hh_) :=
  gd_ (bi_ a2 6) <|
  gd_ (bi_ (a2 + (1 : Int32)) 6) <|
  gd_ (bi_ a3 16) <|
  ff_X3_reckonFrom_39 a1 a2 a3 FU_ (0 : Int32) (hh_sI (hh_sI h (23 + Int32.toNatClampNeg a2) (Int32.toNatClampNeg a3) (h.1 (23 + Int32.toNatClampNeg (a2 + (1 : Int32))) (Int32.toNatClampNeg a3))) (30 + Int32.toNatClampNeg a2) (Int32.toNatClampNeg a3) ((hh_sI h (23 + Int32.toNatClampNeg a2) (Int32.toNatClampNeg a3) (h.1 (23 + Int32.toNatClampNeg (a2 + (1 : Int32))) (Int32.toNatClampNeg a3))).1 (30 + Int32.toNatClampNeg (a2 + (1 : Int32))) (Int32.toNatClampNeg a3)))
def ff_X3_reckon_19 (x1 : Nat) (x2 : Int32) (x3 : Int32) (K19_51 : hh_ → Option (hh_)) : Nat → Int32 → hh_ → Option (hh_)
  | 0, _, _ => none
  | n9 + 1, x4, h =>
    if x3 ≤ x4 then
      K19_51 h
    else
      gd_ (bi_ x2 6) <|
      gd_ (bi_ x4 16) <|
      ff_X3_reckon_19 x1 x2 x3 K19_51 n9 (x4 + (1 : Int32)) (hh_sI (hh_sI h (23 + Int32.toNatClampNeg x2) (Int32.toNatClampNeg x4) (0 : Int32)) (30 + Int32.toNatClampNeg x2) (Int32.toNatClampNeg x4) (1 : Int32))
def ff_X3_reckon_64 (x1 : Nat) (x3 : Int32) (x4 : Int32) (K64_85 : hh_ → Option (hh_)) : Nat → Int32 → hh_ → Option (hh_)
  | 0, _, _ => none
  | n9 + 1, x5, h =>
    if x3 ≤ x5 then
      K64_85 h
    else
      (ff_X3_reckonFrom x1 x4 x5 h).bind fun v4 =>
      ff_X3_reckon_64 x1 x3 x4 K64_85 n9 (x5 + (1 : Int32)) v4
def ff_X3_reckon_56 (x1 : Nat) (x3 : Int32) : Nat → Int32 → hh_ → Option (hh_)
  | 0, _, _ => none
  | n9 + 1, x4, h =>
    if x4 < 0 then
      some (h)
    else
      ff_X3_reckon_64 x1 x3 x4 (fun k6 =>
        ff_X3_reckon_56 x1 x3 n9 (x4 + (-1 : Int32)) k6) FU_ (0 : Int32) h
def ff_X3_reckon (a1 : Nat) (h : hh_) : Option (hh_) :=
  ff_X3_reckon_19 a1 (h.1 (a1 + 23) (Int32.toNatClampNeg (0 : Int32))) ((1 : Int32) <<< ((h.1 (a1 + 23) (Int32.toNatClampNeg (2 : Int32))) &&& 31)) (fun k3 =>
    ff_X3_reckon_56 a1 ((1 : Int32) <<< ((h.1 (a1 + 23) (Int32.toNatClampNeg (2 : Int32))) &&& 31)) FU_ ((h.1 (a1 + 23) (Int32.toNatClampNeg (0 : Int32))) - (1 : Int32)) k3) FU_ (0 : Int32) h
def ff_X3_bestPay (h : hh_) : Option (Int32) :=
  some (h.1 (23 + Int32.toNatClampNeg (0 : Int32)) (Int32.toNatClampNeg (0 : Int32)))
def ff_X3_bestPost_3 (x1 : Nat) (x2 : Int32) (x3 : Int32) (h : hh_) : Nat → Int32 → Option (Int32)
  | 0, _ => none
  | n9 + 1, x4 =>
    if (h.1 (x1 + 23) (Int32.toNatClampNeg (2 : Int32))) ≤ x4 then
      some (-9 : Int32)
    else
      (ff_X3_isFree x2 x4 x3 h).bind fun v1 =>
      if v1 = 0 then
        ff_X3_bestPost_3 x1 x2 x3 h n9 (x4 + (1 : Int32))
      else
        (ff_X3_payBy x1 x2 x4 x3 h).bind fun v3 =>
        gd_ (bi_ x2 6) <|
        gd_ (bi_ x3 16) <|
        if v3 = (h.1 (23 + Int32.toNatClampNeg x2) (Int32.toNatClampNeg x3)) then
          some (x4)
        else
          ff_X3_bestPost_3 x1 x2 x3 h n9 (x4 + (1 : Int32))
def ff_X3_bestPost (a1 : Nat) (a2 : Int32) (a3 : Int32) (h : hh_) : Option (Int32) :=
  ff_X3_bestPost_3 a1 a2 a3 h FU_ (0 : Int32)
def ff_X7_layBestPlan_26 (x1 : Int32) (x2 : Int32) : Nat → Int32 → Int32 → hh_ → Option (Int32 × hh_)
  | 0, _, _, _ => none
  | n9 + 1, x3, x4, h =>
    if x2 ≤ x4 then
      (ff_X3_bestPay h).bind fun v4 =>
      some (v4, h)
    else
      gd_ (bo_ h.2.2.1) <|
      (ff_X3_bestPost h.2.2.1 x4 x3 h).bind fun v7 =>
      if v7 = (-9 : Int32) then
        ff_X7_layBestPlan_26 x1 x2 n9 x3 (x4 + (1 : Int32)) h
      else
        gd_ (bi_ x1 6) <|
        gd_ (bi_ x4 40) <|
        ff_X7_layBestPlan_26 x1 x2 n9 (x3 ||| ((1 : Int32) <<< (v7 &&& 31))) (x4 + (1 : Int32)) (hh_sI h (4 + Int32.toNatClampNeg x1) (Int32.toNatClampNeg x4) v7)
def ff_X7_layBestPlan (a1 : Int32) (h : hh_) : Option (Int32 × hh_) :=
  gd_ (bo_ h.2.2.1) <|
  (ff_X5r_renew a1 (h.1 (h.2.2.1 + 23) (Int32.toNatClampNeg (0 : Int32))) (-9 : Int32) h).bind fun v2 =>
  ff_X7_layBestPlan_26 a1 (h.1 (h.2.2.1 + 23) (Int32.toNatClampNeg (0 : Int32))) FU_ (0 : Int32) (0 : Int32) v2
def ff_X7_plan (a1 : Int32) (a2 : Int32) (h : hh_) : Option (Int32 × hh_) :=
  gd_ (bo_ h.2.2.1) <|
  (ff_X2_has h.2.2.1 (1 : Int32) a1 h).bind fun v2 =>
  if v2 = 0 then
    some ((-1 : Int32), h)
  else
    if (ff_X5r_allows a2 h) = 0 then
      some ((-1 : Int32), h)
    else
      if (h.1 (h.2.2.1 + 23) (Int32.toNatClampNeg (0 : Int32))) = 0 then
        some ((-4 : Int32), h)
      else
        (ff_X3_openByOne h.2.2.1 a1 h).bind fun v4 =>
        gd_ (bo_ v4.2.2.1) <|
        (ff_X3_reckon v4.2.2.1 v4).bind fun v7 =>
        (ff_X7_layBestPlan a2 v7).bind fun v9 =>
        some (v9.1, v9.2)
def ff_X7_plans (a1 : Int32) (h : hh_) : Option (Int32 × hh_) :=
  gd_ (bo_ h.2.2.1) <|
  (ff_X2_has h.2.2.1 (1 : Int32) a1 h).bind fun v2 =>
  if v2 = 0 then
    some ((-1 : Int32), h)
  else
    (ff_X3_openByOne h.2.2.1 a1 h).bind fun v4 =>
    gd_ (bo_ v4.2.2.1) <|
    (ff_X3_reckon v4.2.2.1 v4).bind fun v7 =>
    (ff_X6_tellFraction (Int32.toInt64 (v7.1 (30 + Int32.toNatClampNeg (0 : Int32)) (Int32.toNatClampNeg (0 : Int32)))) (1 : Int64) v7).bind fun v9 =>
    some (v9.1, v9.2)
def ff_X3_openByAll_30 (x1 : Nat) (x2 : Int32) (K30_63 : hh_ → Option (hh_)) : Nat → Int32 → hh_ → Option (hh_)
  | 0, _, _ => none
  | n9 + 1, x3, h =>
    if (h.1 (x1 + 23) (Int32.toNatClampNeg (1 : Int32))) ≤ x3 then
      K30_63 h
    else
      gd_ (bi_ x2 5) <|
      (ff_X2_surePosts x1 x3 x2 (-9 : Int32) h).bind fun v3 =>
      ff_X3_openByAll_30 x1 x2 K30_63 n9 (x3 + (1 : Int32)) (hh_sI h 21 (Int32.toNatClampNeg x2) ((h.1 21 (Int32.toNatClampNeg x2)) &&& v3))
def ff_X3_openByAll_2 (x1 : Nat) : Nat → Int32 → hh_ → Option (hh_)
  | 0, _, _ => none
  | n9 + 1, x2, h =>
    if (h.1 (x1 + 23) (Int32.toNatClampNeg (0 : Int32))) ≤ x2 then
      some (h)
    else
      gd_ (bi_ x2 5) <|
      ff_X3_openByAll_30 x1 x2 (fun k5 =>
        ff_X3_openByAll_2 x1 n9 (x2 + (1 : Int32)) k5) FU_ (0 : Int32) (hh_sI h 21 (Int32.toNatClampNeg x2) (((1 : Int32) <<< ((h.1 (x1 + 23) (Int32.toNatClampNeg (2 : Int32))) &&& 31)) - (1 : Int32)))
def ff_X3_openByAll (a1 : Nat) (h : hh_) : Option (hh_) :=
  ff_X3_openByAll_2 a1 FU_ (0 : Int32) h
def ff_X7_safest (a1 : Int32) (h : hh_) : Option (Int32 × hh_) :=
  if (ff_X5r_allows a1 h) = 0 then
    some ((-1 : Int32), h)
  else
    gd_ (bo_ h.2.2.1) <|
    if (h.1 (h.2.2.1 + 23) (Int32.toNatClampNeg (0 : Int32))) = 0 then
      some ((-4 : Int32), h)
    else
      (ff_X3_openByAll h.2.2.1 h).bind fun v2 =>
      gd_ (bo_ v2.2.2.1) <|
      (ff_X3_reckon v2.2.2.1 v2).bind fun v5 =>
      (ff_X7_layBestPlan a1 v5).bind fun v7 =>
      some (v7.1, v7.2)
def ff_X7_gain_67 (x1 : Int32) (x2 : Int32) (x3 : Int32) (K67_155 : Int32 → Int32 → hh_ → Option (Int32 × hh_)) : Nat → Int32 → Int32 → Int32 → hh_ → Option (Int32 × hh_)
  | 0, _, _, _, _ => none
  | n9 + 1, x4, x5, x6, h =>
    if (4 : Int32) ≤ x6 then
      K67_155 x4 x5 h
    else
      gd_ (bo_ h.2.2.1) <|
      gd_ (bi_ x2 5) <|
      gd_ (bi_ x6 5) <|
      if (5 : Int32) ≤ (h.1 (h.2.2.1 + 8 + Int32.toNatClampNeg x2) (Int32.toNatClampNeg x6)) then
        ff_X7_gain_67 x1 x2 x3 K67_155 n9 x4 x5 (x6 + (1 : Int32)) h
      else
        (ff_X2_surePosts h.2.2.1 x1 x2 x6 h).bind fun v16 =>
        (ff_X3_reckon h.2.2.1 (hh_sI h 21 (Int32.toNatClampNeg x2) v16)).bind fun v18 =>
        (ff_X3_bestPay v18).bind fun v20 =>
        if (v20 - x3) ≤ x5 then
          ff_X7_gain_67 x1 x2 x3 K67_155 n9 x4 x5 (x6 + (1 : Int32)) v18
        else
          (ff_X3_bestPay v18).bind fun v22 =>
          ff_X7_gain_67 x1 x2 x3 K67_155 n9 x6 (v22 - x3) (x6 + (1 : Int32)) v18
def ff_X7_gain (a1 : Int32) (a2 : Int32) (h : hh_) : Option (Int32 × hh_) :=
  gd_ (bo_ h.2.2.1) <|
  (ff_X2_has h.2.2.1 (1 : Int32) a1 h).bind fun v2 =>
  if v2 = 0 then
    some ((-1 : Int32), h)
  else
    (ff_X2_has h.2.2.1 (0 : Int32) a2 h).bind fun v4 =>
    if v4 = 0 then
      some ((-1 : Int32), h)
    else
      (ff_X3_openByOne h.2.2.1 a1 h).bind fun v6 =>
      gd_ (bo_ v6.2.2.1) <|
      (ff_X3_reckon v6.2.2.1 v6).bind fun v9 =>
      (ff_X3_bestPay v9).bind fun v11 =>
      ff_X7_gain_67 a1 a2 v11 (fun u24 u25 k26 =>
        if u24 = (-9 : Int32) then
          some ((-9 : Int32), k26)
        else
          some (u25, (ff_X6_tell u24 k26).2)) FU_ (-9 : Int32) (0 : Int32) (0 : Int32) v9
def ff_X7_findingOfThrees_78 (x1 : Int32) (x2 : Nat) (x3 : Int32) (h : hh_) (K78_79 : Int32 → Option (Int32)) : Option (Int32) :=
  K78_79 (0 : Int32)
def ff_X7_findingOfThrees_79 (x1 : Int32) (x2 : Nat) (x3 : Int32) (y0 : Int32) (h : hh_) (K79_41 : Int32 → Option (Int32)) : Option (Int32) :=
  gd_ (bo_ h.2.2.1) <|
  gd_ (bi_ x3 40) <|
  (ff_X2_has h.2.2.1 (0 : Int32) (h.1 x2 (Int32.toNatClampNeg x3)) h).bind fun v9 =>
  if v9 = 0 then
    some (3 : Int32)
  else
    gd_ (bi_ (x3 + (1 : Int32)) 40) <|
    if (ff_X7_isPlace (h.1 x2 (Int32.toNatClampNeg (x3 + (1 : Int32))))) = 0 then
      some (3 : Int32)
    else
      if y0 = 0 then
        some (3 : Int32)
      else
        K79_41 (x3 + (3 : Int32))
def ff_X7_findingOfThrees_41 (x1 : Int32) (x2 : Nat) (h : hh_) : Nat → Int32 → Option (Int32)
  | 0, _ => none
  | n9 + 1, x3 =>
    gd_ (bi_ x1 6) <|
    if (h.1 10 (Int32.toNatClampNeg x1)) ≤ (x3 + (2 : Int32)) then
      some (0 : Int32)
    else
      gd_ (bi_ (x3 + (2 : Int32)) 40) <|
      if (h.1 x2 (Int32.toNatClampNeg (x3 + (2 : Int32)))) < 0 then
        ff_X7_findingOfThrees_78 x1 x2 x3 h (fun q6 =>
          ff_X7_findingOfThrees_79 x1 x2 x3 q6 h (fun z3 => ff_X7_findingOfThrees_41 x1 x2 h n9 z3))
      else
        if (9 : Int32) < (h.1 x2 (Int32.toNatClampNeg (x3 + (2 : Int32)))) then
          ff_X7_findingOfThrees_78 x1 x2 x3 h (fun q12 =>
            ff_X7_findingOfThrees_79 x1 x2 x3 q12 h (fun z3 => ff_X7_findingOfThrees_41 x1 x2 h n9 z3))
        else
          ff_X7_findingOfThrees_79 x1 x2 x3 (1 : Int32) h (fun z3 => ff_X7_findingOfThrees_41 x1 x2 h n9 z3)
def ff_X7_findingOfThrees (a1 : Int32) (h : hh_) : Option (Int32) :=
  (ff_X5r_lacks a1 h).bind fun v1 =>
  if v1 = 0 then
    gd_ (bi_ a1 6) <|
    if ((h.1 10 (Int32.toNatClampNeg a1)) - (h.1 10 (Int32.toNatClampNeg a1)) / (3 : Int32) * (3 : Int32)) = 0 then
      ff_X7_findingOfThrees_41 a1 (4 + Int32.toNatClampNeg a1) h FU_ (0 : Int32)
    else
      some (5 : Int32)
  else
    some (1 : Int32)
def ff_X7_threesFit_52 (x1 : Int32) (x2 : Int32) (x3 : Int32) (x4 : Int32) (x5 : Nat) (x6 : Int32) (x7 : Int32) (y0 : Int32) (y1 : Int32) (h : hh_) (K52_14 : Int32 → Option (Int32)) : Option (Int32) :=
  gd_ (bo_ h.2.2.1) <|
  gd_ (bi_ x6 40) <|
  (ff_X2_felt h.2.2.1 (h.1 x5 (Int32.toNatClampNeg x6)) x7 (0 : Int32) h).bind fun v6 =>
  (ff_X2_middle y0 y1 v6 h).bind fun v8 =>
  gd_ (bi_ (x6 + (2 : Int32)) 40) <|
  if (if 0 ≤ ((h.1 x5 (Int32.toNatClampNeg (x6 + (2 : Int32)))) - v8) then ((h.1 x5 (Int32.toNatClampNeg (x6 + (2 : Int32)))) - v8) else 0 - ((h.1 x5 (Int32.toNatClampNeg (x6 + (2 : Int32)))) - v8)) ≤ x3 then
    K52_14 (x6 + (3 : Int32))
  else
    some (0 : Int32)
def ff_X7_threesFit_14 (x1 : Int32) (x2 : Int32) (x3 : Int32) (x4 : Int32) (x5 : Nat) (h : hh_) : Nat → Int32 → Option (Int32)
  | 0, _ => none
  | n9 + 1, x6 =>
    gd_ (bi_ x1 6) <|
    if (h.1 10 (Int32.toNatClampNeg x1)) ≤ (x6 + (2 : Int32)) then
      some (1 : Int32)
    else
      gd_ (bi_ (x6 + (1 : Int32)) 40) <|
      if (h.1 x5 (Int32.toNatClampNeg (x6 + (1 : Int32)))) = x4 then
        ff_X7_threesFit_52 x1 x2 x3 x4 x5 x6 (h.1 x5 (Int32.toNatClampNeg (x6 + (1 : Int32)))) x2 (1 : Int32) h (fun z6 => ff_X7_threesFit_14 x1 x2 x3 x4 x5 h n9 z6)
      else
        ff_X7_threesFit_52 x1 x2 x3 x4 x5 x6 (h.1 x5 (Int32.toNatClampNeg (x6 + (1 : Int32)))) x2 (0 : Int32) h (fun z6 => ff_X7_threesFit_14 x1 x2 x3 x4 x5 h n9 z6)
def ff_X7_threesFit (a1 : Int32) (a2 : Int32) (a3 : Int32) (a4 : Int32) (h : hh_) : Option (Int32) :=
  gd_ (bi_ a1 6) <|
  ff_X7_threesFit_14 a1 a2 a3 a4 (4 + Int32.toNatClampNeg a1) h FU_ (0 : Int32)
def ff_X7_learn_60 (x1 : Int32) (x2 : Int32) (x6 : Int32) (h : hh_) (K60_103 : Int32 → Int32 → Option (Int32 × hh_)) : Nat → Int32 → Int32 → Int32 → Option (Int32 × hh_)
  | 0, _, _, _ => none
  | n9 + 1, x4, x5, x7 =>
    if (4 : Int32) ≤ x7 then
      K60_103 x4 x5
    else
      (ff_X7_threesFit x1 x6 x2 x7 h).bind fun v3 =>
      if v3 = 0 then
        ff_X7_learn_60 x1 x2 x6 h K60_103 n9 x4 x5 (x7 + (1 : Int32))
      else
        ff_X7_learn_60 x1 x2 x6 h K60_103 n9 (x4 ||| ((1 : Int32) <<< (x6 &&& 31))) (x5 ||| ((1 : Int32) <<< (x7 &&& 31))) (x7 + (1 : Int32))
def ff_X7_learn_50 (x1 : Int32) (x2 : Int32) (h : hh_) : Nat → Int32 → Int32 → Int32 → Option (Int32 × hh_)
  | 0, _, _, _ => none
  | n9 + 1, x4, x5, x6 =>
    if (6 : Int32) ≤ x6 then
      some (x4, (ff_X6_tell x5 h).2)
    else
      ff_X7_learn_60 x1 x2 x6 h (fun u5 u6 =>
        ff_X7_learn_50 x1 x2 h n9 u5 u6 (x6 + (1 : Int32))) FU_ x4 x5 (0 : Int32)
def ff_X7_learn (a1 : Int32) (a2 : Int32) (h : hh_) : Option (Int32 × hh_) :=
  if (ff_X5r_allows a1 h) = 0 then
    some ((-1 : Int32), h)
  else
    if a2 < 0 then
      some ((-1 : Int32), h)
    else
      if a2 ≤ (2 : Int32) then
        (ff_X7_findingOfThrees a1 h).bind fun v1 =>
        if v1 = 0 then
          ff_X7_learn_50 a1 a2 h FU_ (0 : Int32) (0 : Int32) (0 : Int32)
        else
          (ff_X6_refuse v1 h).bind fun v7 =>
          some (v7.1, v7.2)
      else
        some ((-1 : Int32), h)
def ff_X7_findingOfFates_38 (x1 : Int32) (h : hh_) : Nat → Int32 → Option (Int32)
  | 0, _ => none
  | n9 + 1, x2 =>
    gd_ (bi_ x1 6) <|
    if (h.1 10 (Int32.toNatClampNeg x1)) ≤ x2 then
      some (0 : Int32)
    else
      gd_ (bi_ x2 40) <|
      if (h.1 (4 + Int32.toNatClampNeg x1) (Int32.toNatClampNeg x2)) = 0 then
        ff_X7_findingOfFates_38 x1 h n9 (x2 + (1 : Int32))
      else
        if (h.1 (4 + Int32.toNatClampNeg x1) (Int32.toNatClampNeg x2)) = (1 : Int32) then
          ff_X7_findingOfFates_38 x1 h n9 (x2 + (1 : Int32))
        else
          some (3 : Int32)
def ff_X7_findingOfFates (a1 : Int32) (h : hh_) : Option (Int32) :=
  (ff_X5r_lacks a1 h).bind fun v1 =>
  if v1 = 0 then
    gd_ (bi_ a1 6) <|
    gd_ (bo_ h.2.2.1) <|
    if (h.1 10 (Int32.toNatClampNeg a1)) = (h.1 (h.2.2.1 + 23) (Int32.toNatClampNeg (0 : Int32))) then
      ff_X7_findingOfFates_38 a1 h FU_ (0 : Int32)
    else
      some (5 : Int32)
  else
    some (1 : Int32)
def ff_X2_placesAbove_5 (x0 : Nat) (x1 : Int32) (x2 : Int32) (h : hh_) : Nat → Int32 → Int32 → Option (Int32)
  | 0, _, _ => none
  | n9 + 1, x3, x4 =>
    if (4 : Int32) ≤ x4 then
      some (x3)
    else
      gd_ (bi_ x1 5) <|
      gd_ (bi_ x4 5) <|
      gd_ (bi_ x2 5) <|
      if (h.1 (x0 + 8 + Int32.toNatClampNeg x1) (Int32.toNatClampNeg x4)) ≤ (h.1 (x0 + 8 + Int32.toNatClampNeg x2) (Int32.toNatClampNeg x4)) then
        ff_X2_placesAbove_5 x0 x1 x2 h n9 x3 (x4 + (1 : Int32))
      else
        ff_X2_placesAbove_5 x0 x1 x2 h n9 (x3 ||| ((1 : Int32) <<< (x4 &&& 31))) (x4 + (1 : Int32))
def ff_X2_placesAbove (o : Nat) (a1 : Int32) (a2 : Int32) (h : hh_) : Option (Int32) :=
  ff_X2_placesAbove_5 o a1 a2 h FU_ (0 : Int32) (0 : Int32)
def ff_X7_tells_58 (x1 : Int32) (x5 : Int32) (h : hh_) (K58_154 : Int32 → Int32 → Option (Int32 × hh_)) : Nat → Int32 → Int32 → Int32 → Option (Int32 × hh_)
  | 0, _, _, _ => none
  | n9 + 1, x3, x4, x6 =>
    gd_ (bo_ h.2.2.1) <|
    if (h.1 (h.2.2.1 + 23) (Int32.toNatClampNeg (0 : Int32))) ≤ x6 then
      K58_154 x3 x4
    else
      gd_ (bi_ x1 6) <|
      gd_ (bi_ x5 40) <|
      if (h.1 (4 + Int32.toNatClampNeg x1) (Int32.toNatClampNeg x5)) = (1 : Int32) then
        gd_ (bi_ x6 40) <|
        if (h.1 (4 + Int32.toNatClampNeg x1) (Int32.toNatClampNeg x6)) = 0 then
          (ff_X2_placesAbove h.2.2.1 x5 x6 h).bind fun v8 =>
          (ff_X2_together h.2.2.1 x5 h).bind fun v10 =>
          (ff_X2_together h.2.2.1 x6 h).bind fun v12 =>
          if v10 ≤ v12 then
            ff_X7_tells_58 x1 x5 h K58_154 n9 (x3 &&& v8) (x4 + (0 : Int32)) (x6 + (1 : Int32))
          else
            ff_X7_tells_58 x1 x5 h K58_154 n9 (x3 &&& v8) (x4 + (1 : Int32)) (x6 + (1 : Int32))
        else
          ff_X7_tells_58 x1 x5 h K58_154 n9 x3 x4 (x6 + (1 : Int32))
      else
        ff_X7_tells_58 x1 x5 h K58_154 n9 x3 x4 (x6 + (1 : Int32))
def ff_X7_tells_41 (x1 : Int32) (h : hh_) : Nat → Int32 → Int32 → Int32 → Option (Int32 × hh_)
  | 0, _, _, _ => none
  | n9 + 1, x3, x4, x5 =>
    gd_ (bo_ h.2.2.1) <|
    if (h.1 (h.2.2.1 + 23) (Int32.toNatClampNeg (0 : Int32))) ≤ x5 then
      some (x3, (ff_X6_tell x4 h).2)
    else
      ff_X7_tells_58 x1 x5 h (fun u14 u15 =>
        ff_X7_tells_41 x1 h n9 u14 u15 (x5 + (1 : Int32))) FU_ x3 x4 (0 : Int32)
def ff_X7_tells (a1 : Int32) (h : hh_) : Option (Int32 × hh_) :=
  if (ff_X5r_allows a1 h) = 0 then
    some ((-1 : Int32), h)
  else
    (ff_X7_findingOfFates a1 h).bind fun v1 =>
    if v1 = 0 then
      ff_X7_tells_41 a1 h FU_ (15 : Int32) (0 : Int32) (0 : Int32)
    else
      (ff_X6_refuse v1 h).bind fun v16 =>
      some (v16.1, v16.2)
def ff_X7_nextLot (a0 : Int64) : Option (Int64) :=
  some (((48271 : Int64) * a0) - ((48271 : Int64) * a0) / (2147483647 : Int64) * (2147483647 : Int64))
def ff_X7_lots_92 (x1 : Int32) (x2 : Int32) (x4 : Int32) (x5 : Int32) (x8 : Int32) (x9 : Int32) (K92_149 : Int64 → hh_ → Option (Int32 × hh_)) : Nat → Int64 → Int32 → hh_ → Option (Int32 × hh_)
  | 0, _, _, _ => none
  | n9 + 1, x6, x10, h =>
    if (4 : Int32) ≤ x10 then
      K92_149 x6 h
    else
      (ff_X7_nextLot x6).bind fun v7 =>
      gd_ (bo_ h.2.2.1) <|
      (ff_X2_least h.2.2.1 x1 x9 x10 (0 : Int32) h).bind fun v10 =>
      (ff_X2_ways h.2.2.1 x1 x9 x10 h).bind fun v12 =>
      gd_ (bm_ (Int32.toInt64 v12)) <|
      gd_ (bi_ x10 4) <|
      ff_X7_lots_92 x1 x2 x4 x5 x8 x9 K92_149 n9 v7 (x10 + (1 : Int32)) (hh_sI h 38 (Int32.toNatClampNeg x10) (v10 + (Int64.toInt32 (v7 - v7 / (Int32.toInt64 v12) * (Int32.toInt64 v12)))))
def ff_X7_lots_67 (x1 : Int32) (x2 : Int32) (x4 : Int32) : Nat → Int32 → Int64 → Int32 → hh_ → Option (Int32 × hh_)
  | 0, _, _, _, _ => none
  | n9 + 1, x5, x6, x8, h =>
    if x2 ≤ x8 then
      some (x5, h)
    else
      (ff_X7_nextLot x6).bind fun v4 =>
      gd_ (bm_ (Int32.toInt64 x4)) <|
      ff_X7_lots_92 x1 x2 x4 x5 x8 (Int64.toInt32 (v4 - v4 / (Int32.toInt64 x4) * (Int32.toInt64 x4))) (fun u16 k17 =>
        gd_ (bo_ k17.2.2.1) <|
        (ff_X2_headsThatFit k17.2.2.1 x1 38 k17).bind fun v19 =>
        if v19 = ((1 : Int32) <<< ((Int64.toInt32 (v4 - v4 / (Int32.toInt64 x4) * (Int32.toInt64 x4))) &&& 31)) then
          ff_X7_lots_67 x1 x2 x4 n9 (x5 + (1 : Int32)) u16 (x8 + (1 : Int32)) k17
        else
          ff_X7_lots_67 x1 x2 x4 n9 (x5 + (0 : Int32)) u16 (x8 + (1 : Int32)) k17) FU_ v4 (0 : Int32) h
def ff_X7_lots (a1 : Int32) (a2 : Int32) (a3 : Int32) (h : hh_) : Option (Int32 × hh_) :=
  gd_ (bo_ h.2.2.1) <|
  (ff_X2_has h.2.2.1 (1 : Int32) a1 h).bind fun v2 =>
  if v2 = 0 then
    some ((-1 : Int32), h)
  else
    if a2 < (1 : Int32) then
      some ((-1 : Int32), h)
    else
      if (5 : Int32) < a2 then
        some ((-1 : Int32), h)
      else
        if a3 < (1 : Int32) then
          some ((-1 : Int32), h)
        else
          if (lg_cmp (Int32.toInt64 a3) (2147483647 : Int64)) < 0 then
            if (h.1 (h.2.2.1 + 23) (Int32.toNatClampNeg (0 : Int32))) = 0 then
              some ((-4 : Int32), h)
            else
              ff_X7_lots_67 a1 a2 (h.1 (h.2.2.1 + 23) (Int32.toNatClampNeg (0 : Int32))) FU_ (0 : Int32) (Int32.toInt64 a3) (0 : Int32) h
          else
            some ((-1 : Int32), h)
def ff_X7_asked (h : hh_) : Int32 :=
  (h.1 36 2)
def ff_X7_upper (h : hh_) : Int64 :=
  (h.2.1 36 3)
def ff_X7_lower (h : hh_) : Int64 :=
  (h.2.1 36 4)
def ff_X7_presentOffices_4 (h : hh_) : Nat → Int32 → Int32 → Option (Int32)
  | 0, _, _ => none
  | n9 + 1, x1, x2 =>
    if (3 : Int32) ≤ x2 then
      some (x1)
    else
      gd_ (bi_ x2 3) <|
      if (h.1 (89 + 3 * Int32.toNatClampNeg x2) 2) = (-1 : Int32) then
        ff_X7_presentOffices_4 h n9 (x1 + (0 : Int32)) (x2 + (1 : Int32))
      else
        ff_X7_presentOffices_4 h n9 (x1 + (1 : Int32)) (x2 + (1 : Int32))
def ff_X7_presentOffices (h : hh_) : Option (Int32) :=
  ff_X7_presentOffices_4 h FU_ (0 : Int32) (0 : Int32)
def ff_X5t_present_4 (h : hh_) : Nat → Int32 → Int32 → Option (Int32)
  | 0, _, _ => none
  | n9 + 1, x1, x2 =>
    if (4 : Int32) ≤ x2 then
      some (x1)
    else
      (ff_X5t_lacks x2 h).bind fun v1 =>
      if v1 = 0 then
        ff_X5t_present_4 h n9 (x1 + (1 : Int32)) (x2 + (1 : Int32))
      else
        ff_X5t_present_4 h n9 (x1 + (0 : Int32)) (x2 + (1 : Int32))
def ff_X5t_present (h : hh_) : Option (Int32) :=
  ff_X5t_present_4 h FU_ (0 : Int32) (0 : Int32)
def ff_X5r_present_4 (h : hh_) : Nat → Int32 → Int32 → Option (Int32)
  | 0, _, _ => none
  | n9 + 1, x1, x2 =>
    if (6 : Int32) ≤ x2 then
      some (x1)
    else
      (ff_X5r_lacks x2 h).bind fun v1 =>
      if v1 = 0 then
        ff_X5r_present_4 h n9 (x1 + (1 : Int32)) (x2 + (1 : Int32))
      else
        ff_X5r_present_4 h n9 (x1 + (0 : Int32)) (x2 + (1 : Int32))
def ff_X5r_present (h : hh_) : Option (Int32) :=
  ff_X5r_present_4 h FU_ (0 : Int32) (0 : Int32)
def ff_X2_wishingOnes_4 (x0 : Nat) (h : hh_) : Nat → Int32 → Int32 → Option (Int32)
  | 0, _, _ => none
  | n9 + 1, x1, x2 =>
    if (h.1 (x0 + 23) (Int32.toNatClampNeg (1 : Int32))) ≤ x2 then
      some (x1)
    else
      (ff_X2_isOf x0 x2 (3 : Int32) h).bind fun v1 =>
      if v1 = 0 then
        ff_X2_wishingOnes_4 x0 h n9 (x1 + (0 : Int32)) (x2 + (1 : Int32))
      else
        ff_X2_wishingOnes_4 x0 h n9 (x1 + (1 : Int32)) (x2 + (1 : Int32))
def ff_X2_wishingOnes (o : Nat) (h : hh_) : Option (Int32) :=
  ff_X2_wishingOnes_4 o h FU_ (0 : Int32) (0 : Int32)
def ff_X2_allTogether_4 (x0 : Nat) (h : hh_) : Nat → Int32 → Int32 → Option (Int32)
  | 0, _, _ => none
  | n9 + 1, x1, x2 =>
    if (h.1 (x0 + 23) (Int32.toNatClampNeg (0 : Int32))) ≤ x2 then
      some (x1)
    else
      (ff_X2_together x0 x2 h).bind fun v1 =>
      ff_X2_allTogether_4 x0 h n9 (x1 + v1) (x2 + (1 : Int32))
def ff_X2_allTogether (o : Nat) (h : hh_) : Option (Int32) :=
  ff_X2_allTogether_4 o h FU_ (0 : Int32) (0 : Int32)
def ff_X7_count (a1 : Int32) (h : hh_) : Option (Int32) :=
  if a1 = (0 : Int32) then
    gd_ (bo_ h.2.2.1) <|
    some (h.1 (h.2.2.1 + 23) (Int32.toNatClampNeg (0 : Int32)))
  else
    if a1 = (1 : Int32) then
      gd_ (bo_ h.2.2.1) <|
      some (h.1 (h.2.2.1 + 23) (Int32.toNatClampNeg (1 : Int32)))
    else
      if a1 = (2 : Int32) then
        gd_ (bo_ h.2.2.1) <|
        some (h.1 (h.2.2.1 + 23) (Int32.toNatClampNeg (2 : Int32)))
      else
        if a1 = (3 : Int32) then
          gd_ (bo_ h.2.2.1) <|
          some (h.1 h.2.2.1 6)
        else
          if a1 = (4 : Int32) then
            gd_ (bo_ h.2.2.1) <|
            (ff_X2_allTogether h.2.2.1 h).bind fun v11 =>
            some (v11)
          else
            if a1 = (5 : Int32) then
              gd_ (bo_ h.2.2.1) <|
              (ff_X2_wishingOnes h.2.2.1 h).bind fun v8 =>
              some (v8)
            else
              if a1 = (6 : Int32) then
                (ff_X5r_present h).bind fun v5 =>
                some (v5)
              else
                if a1 = (7 : Int32) then
                  (ff_X5t_present h).bind fun v3 =>
                  some (v3)
                else
                  if a1 = (8 : Int32) then
                    (ff_X7_presentOffices h).bind fun v1 =>
                    some (v1)
                  else
                    some (-1 : Int32)
def ff_X7_finding (h : hh_) : Int32 :=
  (h.1 36 1)
def ff_X7_findings (a1 : Int32) (h : hh_) : Option (Int32) :=
  if a1 < (1 : Int32) then
    some (-1 : Int32)
  else
    if a1 ≤ (5 : Int32) then
      gd_ (bi_ a1 6) <|
      some (h.1 37 (Int32.toNatClampNeg a1))
    else
      some (-1 : Int32)
def ff_X2_mix_15 (x0 : Nat) (x3 : Int32) (h : hh_) (K15_42 : Int64 → Option (Int64)) : Nat → Int64 → Int32 → Option (Int64)
  | 0, _, _ => none
  | n9 + 1, x1, x4 =>
    if (5 : Int32) < x4 then
      K15_42 x1
    else
      (ff_X2_ofHead x0 x3 x4 h).bind fun v1 =>
      ff_X2_mix_15 x0 x3 h K15_42 n9 (((31 : Int64) * x1) + (Int32.toInt64 v1)) (x4 + (1 : Int32))
def ff_X2_mix_2 (x0 : Nat) (h : hh_) (K2_48 : Int64 → Option (Int64)) : Nat → Int64 → Int32 → Option (Int64)
  | 0, _, _ => none
  | n9 + 1, x1, x3 =>
    if (h.1 (x0 + 23) (Int32.toNatClampNeg (0 : Int32))) ≤ x3 then
      K2_48 x1
    else
      ff_X2_mix_15 x0 x3 h (fun u3 =>
        ff_X2_mix_2 x0 h K2_48 n9 u3 (x3 + (1 : Int32))) FU_ x1 (0 : Int32)
def ff_X2_mix_63 (x0 : Nat) (x3 : Int32) (h : hh_) (K63_92 : Int64 → Option (Int64)) : Nat → Int64 → Int32 → Option (Int64)
  | 0, _, _ => none
  | n9 + 1, x1, x4 =>
    if (2 : Int32) < x4 then
      K63_92 x1
    else
      gd_ (bi_ x3 4) <|
      gd_ (bi_ x4 3) <|
      ff_X2_mix_63 x0 x3 h K63_92 n9 (((31 : Int64) * x1) + (Int32.toInt64 (h.1 (x0 + 14 + Int32.toNatClampNeg x3) (Int32.toNatClampNeg x4)))) (x4 + (1 : Int32))
def ff_X2_mix_50 (x0 : Nat) (h : hh_) (K50_98 : Int64 → Option (Int64)) : Nat → Int64 → Int32 → Option (Int64)
  | 0, _, _ => none
  | n9 + 1, x1, x3 =>
    if (h.1 (x0 + 23) (Int32.toNatClampNeg (1 : Int32))) ≤ x3 then
      K50_98 x1
    else
      ff_X2_mix_63 x0 x3 h (fun u7 =>
        ff_X2_mix_50 x0 h K50_98 n9 u7 (x3 + (1 : Int32))) FU_ x1 (0 : Int32)
def ff_X2_mix_113 (x0 : Nat) (x3 : Int32) (h : hh_) (K113_142 : Int64 → Option (Int64)) : Nat → Int64 → Int32 → Option (Int64)
  | 0, _, _ => none
  | n9 + 1, x1, x4 =>
    if (4 : Int32) < x4 then
      K113_142 x1
    else
      gd_ (bi_ x3 4) <|
      gd_ (bi_ x4 5) <|
      ff_X2_mix_113 x0 x3 h K113_142 n9 (((31 : Int64) * x1) + (Int32.toInt64 (h.1 (x0 + 19 + Int32.toNatClampNeg x3) (Int32.toNatClampNeg x4)))) (x4 + (1 : Int32))
def ff_X2_mix_100 (x0 : Nat) (h : hh_) : Nat → Int64 → Int32 → Option (Int64)
  | 0, _, _ => none
  | n9 + 1, x1, x3 =>
    if (h.1 (x0 + 23) (Int32.toNatClampNeg (2 : Int32))) ≤ x3 then
      some (x1)
    else
      ff_X2_mix_113 x0 x3 h (fun u11 =>
        ff_X2_mix_100 x0 h n9 u11 (x3 + (1 : Int32))) FU_ x1 (0 : Int32)
def ff_X2_mix (o : Nat) (a1 : Int64) (h : hh_) : Option (Int64) :=
  ff_X2_mix_2 o h (fun u4 =>
    ff_X2_mix_50 o h (fun u8 =>
      ff_X2_mix_100 o h FU_ u8 (0 : Int32)) FU_ u4 (0 : Int32)) FU_ a1 (0 : Int32)
def ff_X5r_mix_28 (x3 : Int32) (h : hh_) (K28_62 : Int64 → Option (Int64)) : Nat → Int64 → Int32 → Option (Int64)
  | 0, _, _ => none
  | n9 + 1, x1, x4 =>
    gd_ (bi_ x3 6) <|
    if (h.1 10 (Int32.toNatClampNeg x3)) ≤ x4 then
      K28_62 x1
    else
      gd_ (bi_ x4 40) <|
      ff_X5r_mix_28 x3 h K28_62 n9 (((31 : Int64) * x1) + (Int32.toInt64 (h.1 (4 + Int32.toNatClampNeg x3) (Int32.toNatClampNeg x4)))) (x4 + (1 : Int32))
def ff_X5r_mix_2 (h : hh_) : Nat → Int64 → Int32 → Option (Int64)
  | 0, _, _ => none
  | n9 + 1, x1, x3 =>
    if (6 : Int32) ≤ x3 then
      some (x1)
    else
      gd_ (bi_ x3 6) <|
      ff_X5r_mix_28 x3 h (fun u4 =>
        ff_X5r_mix_2 h n9 u4 (x3 + (1 : Int32))) FU_ (((31 : Int64) * x1) + (Int32.toInt64 (h.1 10 (Int32.toNatClampNeg x3)))) (0 : Int32)
def ff_X5r_mix (a1 : Int64) (h : hh_) : Option (Int64) :=
  ff_X5r_mix_2 h FU_ a1 (0 : Int32)
def ff_X5t_mix_28 (x3 : Int32) (h : hh_) (K28_62 : Int64 → Option (Int64)) : Nat → Int64 → Int32 → Option (Int64)
  | 0, _, _ => none
  | n9 + 1, x1, x4 =>
    gd_ (bi_ x3 4) <|
    if (h.1 17 (Int32.toNatClampNeg x3)) ≤ x4 then
      K28_62 x1
    else
      gd_ (bi_ x4 80) <|
      ff_X5t_mix_28 x3 h K28_62 n9 (((31 : Int64) * x1) + (Int32.toInt64 (h.1 (13 + Int32.toNatClampNeg x3) (Int32.toNatClampNeg x4)))) (x4 + (1 : Int32))
def ff_X5t_mix_2 (h : hh_) : Nat → Int64 → Int32 → Option (Int64)
  | 0, _, _ => none
  | n9 + 1, x1, x3 =>
    if (4 : Int32) ≤ x3 then
      some (x1)
    else
      gd_ (bi_ x3 4) <|
      ff_X5t_mix_28 x3 h (fun u4 =>
        ff_X5t_mix_2 h n9 u4 (x3 + (1 : Int32))) FU_ (((31 : Int64) * x1) + (Int32.toInt64 (h.1 17 (Int32.toNatClampNeg x3)))) (0 : Int32)
def ff_X5t_mix (a1 : Int64) (h : hh_) : Option (Int64) :=
  ff_X5t_mix_2 h FU_ a1 (0 : Int32)
def ff_X7_digest_6 (h : hh_) (K6_31 : Int64 → Option (Int64)) : Nat → Int64 → Int32 → Option (Int64)
  | 0, _, _ => none
  | n9 + 1, x1, x3 =>
    if (8 : Int32) < x3 then
      K6_31 x1
    else
      (ff_X7_count x3 h).bind fun v1 =>
      ff_X7_digest_6 h K6_31 n9 (((31 : Int64) * x1) + (Int32.toInt64 v1)) (x3 + (1 : Int32))
def ff_X7_digest_42 (h : hh_) : Nat → Int64 → Int32 → Option (Int64)
  | 0, _, _ => none
  | n9 + 1, x1, x3 =>
    if (3 : Int32) ≤ x3 then
      (ff_X5r_mix x1 h).bind fun v7 =>
      (ff_X5t_mix v7 h).bind fun v9 =>
      some (v9)
    else
      gd_ (bi_ x3 3) <|
      ff_X7_digest_42 h n9 (((31 : Int64) * x1) + (Int32.toInt64 (h.1 (89 + 3 * Int32.toNatClampNeg x3) 2))) (x3 + (1 : Int32))
def ff_X7_digest (h : hh_) : Option (Int64) :=
  ff_X7_digest_6 h (fun u3 =>
    gd_ (bo_ h.2.2.1) <|
    (ff_X2_mix h.2.2.1 u3 h).bind fun v5 =>
    ff_X7_digest_42 h FU_ v5 (0 : Int32)) FU_ (17 : Int64) (0 : Int32)
def ff_X8_in (a0 : Int32) (a1 : Int32) (a2 : Int32) : Int32 :=
  if a0 < a1 then
    (0 : Int32)
  else
    if a2 < a0 then
      (0 : Int32)
    else
      (1 : Int32)
def ff_X8_meet (a1 : Int32) (h : hh_) : Option (Int32 × hh_) :=
  gd_ (bi_ a1 6) <|
  some ((-3 : Int32), (hh_sI (hh_sI h 98 0 a1) 99 (Int32.toNatClampNeg a1) (((hh_sI h 98 0 a1).1 99 (Int32.toNatClampNeg a1)) + (1 : Int32))))
def ff_X8_ask (a1 : Int32) (a2 : Int32) (h : hh_) : Int32 × hh_ :=
  (a2, (hh_sI h 98 2 a1))
def ff_X8_has (a0 : Int32) (a1 : Int32) : Int32 :=
  if ((a0 >>> (a1 &&& 31)) &&& (1 : Int32)) = (1 : Int32) then
    (1 : Int32)
  else
    (0 : Int32)
def ff_X8_lesser (a0 : Int32) (a1 : Int32) : Int32 :=
  if a1 ≤ a0 then
    a1
  else
    a0
def ff_X8_greater (a0 : Int32) (a1 : Int32) : Int32 :=
  if a0 ≤ a1 then
    a1
  else
    a0
def ff_X8_part_6 (x1 : Int64) (x3 : Int64) (h : hh_) : Nat → Int64 → Int64 → Option (Int32 × hh_)
  | 0, _, _ => none
  | n9 + 1, x5, x7 =>
    if (lg_cmp x7 (0 : Int64)) = 0 then
      gd_ (bm_ x5) <|
      some ((1 : Int32), (hh_sL (hh_sL h 98 3 (x1 / x5)) 98 4 (x3 / x5)))
    else
      gd_ (bm_ x7) <|
      ff_X8_part_6 x1 x3 h n9 x7 (x5 - x5 / x7 * x7)
def ff_X8_part (a1 : Int64) (a3 : Int64) (h : hh_) : Option (Int32 × hh_) :=
  ff_X8_part_6 a1 a3 h FU_ a1 a3
def ff_X8_isRow (a0 : Int32) : Int32 :=
  (ff_X8_in a0 (0 : Int32) (5 : Int32))
def ff_X8_isText (a0 : Int32) : Int32 :=
  (ff_X8_in a0 (0 : Int32) (3 : Int32))
def ff_X8_askedRow (a1 : Int32) (h : hh_) : Option (Int32 × hh_) :=
  if (ff_X8_isRow a1) = 0 then
    some ((-1 : Int32), h)
  else
    gd_ (bi_ a1 6) <|
    if 0 ≤ (h.1 100 (Int32.toNatClampNeg a1)) then
      some ((0 : Int32), h)
    else
      (ff_X8_meet (1 : Int32) h).bind fun v2 =>
      some (v2.1, v2.2)
def ff_X8_askedText (a1 : Int32) (h : hh_) : Option (Int32 × hh_) :=
  if (ff_X8_isText a1) = 0 then
    some ((-1 : Int32), h)
  else
    gd_ (bi_ a1 4) <|
    if 0 ≤ (h.1 103 (Int32.toNatClampNeg a1)) then
      some ((0 : Int32), h)
    else
      (ff_X8_meet (1 : Int32) h).bind fun v2 =>
      some (v2.1, v2.2)
def ff_X8_rowAt (a1 : Int32) (a2 : Int32) (h : hh_) : Option (Int32) :=
  gd_ (bi_ (((40 : Int32) * a1) + a2) 240) <|
  some (h.1 101 (Int32.toNatClampNeg (((40 : Int32) * a1) + a2)))
def ff_X8_setRow (a1 : Int32) (a2 : Int32) (a3 : Int32) (h : hh_) : Option (hh_) :=
  gd_ (bi_ (((40 : Int32) * a1) + a2) 240) <|
  some (hh_sI h 101 (Int32.toNatClampNeg (((40 : Int32) * a1) + a2)) a3)
def ff_X8_row_34 (x1 : Int32) (x2 : Int32) : Nat → Int32 → hh_ → Option (Int32 × hh_)
  | 0, _, _ => none
  | n9 + 1, x3, h =>
    if (40 : Int32) ≤ x3 then
      some (x2, h)
    else
      (ff_X8_setRow x1 x3 (0 : Int32) h).bind fun v2 =>
      ff_X8_row_34 x1 x2 n9 (x3 + (1 : Int32)) v2
def ff_X8_row (a1 : Int32) (a2 : Int32) (h : hh_) : Option (Int32 × hh_) :=
  if (ff_X8_isRow a1) = 0 then
    some ((-1 : Int32), h)
  else
    if a2 ≤ (40 : Int32) then
      if 0 ≤ a2 then
        gd_ (bi_ a1 6) <|
        ff_X8_row_34 a1 a2 FU_ (0 : Int32) (hh_sI h 100 (Int32.toNatClampNeg a1) a2)
      else
        (ff_X8_meet (5 : Int32) h).bind fun v4 =>
        some (v4.1, v4.2)
    else
      some ((-1 : Int32), h)
def ff_X8_at (a1 : Int32) (a2 : Int32) (h : hh_) : Option (Int32 × hh_) :=
  (ff_X8_askedRow a1 h).bind fun v1 =>
  if 0 ≤ v1.1 then
    gd_ (bi_ a1 6) <|
    if (ff_X8_in a2 (0 : Int32) ((v1.2.1 100 (Int32.toNatClampNeg a1)) - (1 : Int32))) = 0 then
      (ff_X8_meet (2 : Int32) v1.2).bind fun v4 =>
      some (v4.1, v4.2)
    else
      (ff_X8_rowAt a1 a2 v1.2).bind fun v6 =>
      some ((ff_X8_ask v6 (1 : Int32) v1.2).1, (ff_X8_ask v6 (1 : Int32) v1.2).2)
  else
    some (v1.1, v1.2)
def ff_X8_lay (a1 : Int32) (a2 : Int32) (a3 : Int32) (h : hh_) : Option (Int32 × hh_) :=
  (ff_X8_at a1 a2 h).bind fun v1 =>
  if 0 ≤ v1.1 then
    (ff_X8_setRow a1 a2 a3 v1.2).bind fun v3 =>
    some ((1 : Int32), v3)
  else
    some (v1.1, v1.2)
def ff_X8_tear (a1 : Int32) (h : hh_) : Option (Int32 × hh_) :=
  (ff_X8_askedRow a1 h).bind fun v1 =>
  if 0 ≤ v1.1 then
    gd_ (bi_ a1 6) <|
    some ((1 : Int32), (hh_sI v1.2 100 (Int32.toNatClampNeg a1) (-9 : Int32)))
  else
    some (v1.1, v1.2)
def ff_X8_copy_104 (x1 : Int32) (x2 : Int32) (x3 : Int32) (x4 : Int32) (x5 : Int32) (K104_133 : hh_ → Option (Int32 × hh_)) : Nat → Int32 → hh_ → Option (Int32 × hh_)
  | 0, _, _ => none
  | n9 + 1, x6, h =>
    if x5 ≤ x6 then
      K104_133 h
    else
      (ff_X8_rowAt x1 (x2 + x6) h).bind fun v11 =>
      gd_ (bi_ x6 40) <|
      ff_X8_copy_104 x1 x2 x3 x4 x5 K104_133 n9 (x6 + (1 : Int32)) (hh_sI h 102 (Int32.toNatClampNeg x6) v11)
def ff_X8_copy_136 (x3 : Int32) (x4 : Int32) (x5 : Int32) : Nat → Int32 → hh_ → Option (Int32 × hh_)
  | 0, _, _ => none
  | n9 + 1, x6, h =>
    if x5 ≤ x6 then
      some ((1 : Int32), h)
    else
      gd_ (bi_ x6 40) <|
      (ff_X8_setRow x3 (x4 + x6) (h.1 102 (Int32.toNatClampNeg x6)) h).bind fun v16 =>
      ff_X8_copy_136 x3 x4 x5 n9 (x6 + (1 : Int32)) v16
def ff_X8_copy (a1 : Int32) (a2 : Int32) (a3 : Int32) (a4 : Int32) (a5 : Int32) (h : hh_) : Option (Int32 × hh_) :=
  if (ff_X8_isRow a1) = 0 then
    some ((-1 : Int32), h)
  else
    if (ff_X8_isRow a3) = 0 then
      some ((-1 : Int32), h)
    else
      if 0 ≤ a5 then
        gd_ (bi_ a1 6) <|
        if (h.1 100 (Int32.toNatClampNeg a1)) < 0 then
          (ff_X8_meet (1 : Int32) h).bind fun v2 =>
          some (v2.1, v2.2)
        else
          gd_ (bi_ a3 6) <|
          if 0 ≤ (h.1 100 (Int32.toNatClampNeg a3)) then
            if a2 < 0 then
              (ff_X8_meet (2 : Int32) h).bind fun v5 =>
              some (v5.1, v5.2)
            else
              if a4 < 0 then
                (ff_X8_meet (2 : Int32) h).bind fun v7 =>
                some (v7.1, v7.2)
              else
                if 0 < (lg_cmp ((Int32.toInt64 a2) + (Int32.toInt64 a5)) (Int32.toInt64 (h.1 100 (Int32.toNatClampNeg a1)))) then
                  (ff_X8_meet (2 : Int32) h).bind fun v9 =>
                  some (v9.1, v9.2)
                else
                  if (lg_cmp ((Int32.toInt64 a4) + (Int32.toInt64 a5)) (Int32.toInt64 (h.1 100 (Int32.toNatClampNeg a3)))) ≤ 0 then
                    ff_X8_copy_104 a1 a2 a3 a4 a5 (fun k14 =>
                      ff_X8_copy_136 a3 a4 a5 FU_ (0 : Int32) k14) FU_ (0 : Int32) h
                  else
                    (ff_X8_meet (2 : Int32) h).bind fun v18 =>
                    some (v18.1, v18.2)
          else
            (ff_X8_meet (1 : Int32) h).bind fun v20 =>
            some (v20.1, v20.2)
      else
        (ff_X8_meet (5 : Int32) h).bind fun v22 =>
        some (v22.1, v22.2)
def ff_X8_mean_17 (x1 : Int32) (h : hh_) (K17_45 : Int64 → Option (Int32 × hh_)) : Nat → Int64 → Int32 → Option (Int32 × hh_)
  | 0, _, _ => none
  | n9 + 1, x3, x5 =>
    gd_ (bi_ x1 6) <|
    if (h.1 100 (Int32.toNatClampNeg x1)) ≤ x5 then
      K17_45 x3
    else
      (ff_X8_rowAt x1 x5 h).bind fun v4 =>
      ff_X8_mean_17 x1 h K17_45 n9 (x3 + (Int32.toInt64 v4)) (x5 + (1 : Int32))
def ff_X8_mean (a1 : Int32) (h : hh_) : Option (Int32 × hh_) :=
  (ff_X8_askedRow a1 h).bind fun v1 =>
  if 0 ≤ v1.1 then
    ff_X8_mean_17 a1 v1.2 (fun u6 =>
      gd_ (bi_ a1 6) <|
      if (v1.2.1 100 (Int32.toNatClampNeg a1)) = 0 then
        (ff_X8_meet (4 : Int32) v1.2).bind fun v9 =>
        some (v9.1, v9.2)
      else
        gd_ (bm_ (Int32.toInt64 (v1.2.1 100 (Int32.toNatClampNeg a1)))) <|
        some ((ff_X8_ask (Int64.toInt32 (u6 / (Int32.toInt64 (v1.2.1 100 (Int32.toNatClampNeg a1))))) (1 : Int32) v1.2).1, (ff_X8_ask (Int64.toInt32 (u6 / (Int32.toInt64 (v1.2.1 100 (Int32.toNatClampNeg a1))))) (1 : Int32) v1.2).2)) FU_ (0 : Int64) (0 : Int32)
  else
    some (v1.1, v1.2)
def ff_X8_text_34 (x1 : Int32) (x2 : Int32) : Nat → Int32 → hh_ → Option (Int32 × hh_)
  | 0, _, _ => none
  | n9 + 1, x3, h =>
    if (80 : Int32) ≤ x3 then
      some (x2, h)
    else
      gd_ (bi_ (((80 : Int32) * x1) + x3) 320) <|
      ff_X8_text_34 x1 x2 n9 (x3 + (1 : Int32)) (hh_sI h 104 (Int32.toNatClampNeg (((80 : Int32) * x1) + x3)) (32 : Int32))
def ff_X8_text (a1 : Int32) (a2 : Int32) (h : hh_) : Option (Int32 × hh_) :=
  if (ff_X8_isText a1) = 0 then
    some ((-1 : Int32), h)
  else
    if a2 ≤ (80 : Int32) then
      if 0 ≤ a2 then
        gd_ (bi_ a1 4) <|
        ff_X8_text_34 a1 a2 FU_ (0 : Int32) (hh_sI h 103 (Int32.toNatClampNeg a1) a2)
      else
        (ff_X8_meet (5 : Int32) h).bind fun v3 =>
        some (v3.1, v3.2)
    else
      some ((-1 : Int32), h)
def ff_X8_put (a1 : Int32) (a2 : Int32) (a3 : Int32) (h : hh_) : Option (Int32 × hh_) :=
  (ff_X8_askedText a1 h).bind fun v1 =>
  if 0 ≤ v1.1 then
    gd_ (bi_ a1 4) <|
    if (ff_X8_in a2 (0 : Int32) ((v1.2.1 103 (Int32.toNatClampNeg a1)) - (1 : Int32))) = 0 then
      (ff_X8_meet (2 : Int32) v1.2).bind fun v5 =>
      some (v5.1, v5.2)
    else
      gd_ (bi_ (((80 : Int32) * a1) + a2) 320) <|
      some (((v1.2.1 104 (Int32.toNatClampNeg (((80 : Int32) * a1) + a2))) + (1000 : Int32)), (hh_sI v1.2 104 (Int32.toNatClampNeg (((80 : Int32) * a1) + a2)) (Int8.toInt32 (Int32.toInt8 a3))))
  else
    some (v1.1, v1.2)
def ff_X8_here (a1 : Int32) (h : hh_) : Option (Int32) :=
  gd_ (bi_ a1 4) <|
  if (h.1 103 (Int32.toNatClampNeg a1)) ≤ (h.1 98 16) then
    some (-9 : Int32)
  else
    gd_ (bi_ (((80 : Int32) * a1) + (h.1 98 16)) 320) <|
    some (h.1 104 (Int32.toNatClampNeg (((80 : Int32) * a1) + (h.1 98 16))))
def ff_X8_figure (a1 : Int32) (a2 : Int32) (a3 : Int32) (a4 : Int32) (h : hh_) : Option (Int32 × hh_) :=
  (ff_X8_here a1 h).bind fun v1 =>
  if (ff_X8_in (v1 - (48 : Int32)) a3 a4) = 0 then
    some ((0 : Int32), h)
  else
    gd_ (bi_ a2 60) <|
    some ((1 : Int32), (hh_sI (hh_sI h 108 (Int32.toNatClampNeg a2) (v1 - (48 : Int32))) 98 16 (((hh_sI h 108 (Int32.toNatClampNeg a2) (v1 - (48 : Int32))).1 98 16) + (1 : Int32))))
def ff_X8_kindOf (a0 : Int32) : Int32 :=
  if a0 = (116 : Int32) then
    (0 : Int32)
  else
    if a0 = (118 : Int32) then
      (1 : Int32)
    else
      if a0 = (108 : Int32) then
        (2 : Int32)
      else
        if a0 = (119 : Int32) then
          (3 : Int32)
        else
          if a0 = (99 : Int32) then
            (4 : Int32)
          else
            if a0 = (100 : Int32) then
              (5 : Int32)
            else
              (-9 : Int32)
def ff_X8_readsHead_36 (x1 : Int32) (K36_76 : Int32 → hh_ → Option (Int32 × hh_)) : Nat → Int32 → Int32 → hh_ → Option (Int32 × hh_)
  | 0, _, _, _ => none
  | n9 + 1, x2, x3, h =>
    if (5 : Int32) ≤ x3 then
      K36_76 x2 h
    else
      if x2 = 0 then
        K36_76 x2 h
      else
        if (4 : Int32) ≤ x3 then
          (ff_X8_figure x1 (((5 : Int32) * (h.1 98 17)) + x3) (0 : Int32) (3 : Int32) h).bind fun v1 =>
          ff_X8_readsHead_36 x1 K36_76 n9 v1.1 (x3 + (1 : Int32)) v1.2
        else
          (ff_X8_figure x1 (((5 : Int32) * (h.1 98 17)) + x3) (0 : Int32) (5 : Int32) h).bind fun v3 =>
          ff_X8_readsHead_36 x1 K36_76 n9 v3.1 (x3 + (1 : Int32)) v3.2
def ff_X8_readsHead_76 (x2 : Int32) (h : hh_) : Option (Int32 × hh_) :=
  if x2 = 0 then
    gd_ (bz_ x2) <|
    some (x2, (hh_sI h 98 17 ((h.1 98 17) + (0 : Int32))))
  else
    gd_ (bz_ x2) <|
    some (x2, (hh_sI h 98 17 ((h.1 98 17) + (1 : Int32))))
def ff_X8_readsHead (a1 : Int32) (h : hh_) : Option (Int32 × hh_) :=
  if (h.1 98 17) = (5 : Int32) then
    some ((0 : Int32), h)
  else
    if ((h.1 98 18) + (h.1 98 19)) ≤ 0 then
      ff_X8_readsHead_36 a1 (fun u5 k6 =>
        ff_X8_readsHead_76 u5 k6) FU_ (1 : Int32) (0 : Int32) (hh_sI h 98 16 ((h.1 98 16) + (1 : Int32)))
    else
      some ((0 : Int32), h)
def ff_X8_readsThumb_96 (h : hh_) (K96_97 : Int32 → Option (Int32 × hh_)) : Option (Int32 × hh_) :=
  K96_97 (0 : Int32)
def ff_X8_readsThumb_97 (y0 : Int32) (h : hh_) : Option (Int32 × hh_) :=
  if y0 = 0 then
    gd_ (bz_ y0) <|
    some (y0, (hh_sI h 98 18 ((h.1 98 18) + (0 : Int32))))
  else
    gd_ (bz_ y0) <|
    some (y0, (hh_sI h 98 18 ((h.1 98 18) + (1 : Int32))))
def ff_X8_readsThumb (a1 : Int32) (h : hh_) : Option (Int32 × hh_) :=
  (ff_X8_here a1 h).bind fun v1 =>
  if (ff_X8_kindOf v1) = (-9 : Int32) then
    some ((0 : Int32), h)
  else
    if (h.1 98 17) = 0 then
      some ((0 : Int32), h)
    else
      if (h.1 98 18) = (4 : Int32) then
        some ((0 : Int32), h)
      else
        if (h.1 98 19) ≤ 0 then
          gd_ (bi_ ((25 : Int32) + ((3 : Int32) * ((hh_sI h 98 16 ((h.1 98 16) + (1 : Int32))).1 98 18))) 60) <|
          (ff_X8_figure a1 (((25 : Int32) + ((3 : Int32) * ((hh_sI h 98 16 ((h.1 98 16) + (1 : Int32))).1 98 18))) + (1 : Int32)) (0 : Int32) (2 : Int32) (hh_sI (hh_sI h 98 16 ((h.1 98 16) + (1 : Int32))) 108 (Int32.toNatClampNeg ((25 : Int32) + ((3 : Int32) * ((hh_sI h 98 16 ((h.1 98 16) + (1 : Int32))).1 98 18)))) (ff_X8_kindOf v1))).bind fun v4 =>
          if v4.1 = 0 then
            ff_X8_readsThumb_96 v4.2 (fun q6 =>
              ff_X8_readsThumb_97 q6 v4.2)
          else
            (ff_X8_figure a1 (((25 : Int32) + ((3 : Int32) * ((hh_sI h 98 16 ((h.1 98 16) + (1 : Int32))).1 98 18))) + (2 : Int32)) (0 : Int32) (3 : Int32) v4.2).bind fun v9 =>
            if v9.1 = 0 then
              ff_X8_readsThumb_96 v9.2 (fun q11 =>
                ff_X8_readsThumb_97 q11 v9.2)
            else
              ff_X8_readsThumb_97 (1 : Int32) v9.2
        else
          some ((0 : Int32), h)
def ff_X8_readsPost_63 (x1 : Int32) (x3 : Int32) (y1 : Int32) (y2 : Int32) (y3 : Int32) (h : hh_) (K63_31 : Int32 → Int32 → hh_ → Option (Int32 × hh_)) : Option (Int32 × hh_) :=
  if (4 : Int32) ≤ x3 then
    (ff_X8_figure y1 y2 y3 (9 : Int32) h).bind fun v1 =>
    K63_31 v1.1 (x3 + (1 : Int32)) v1.2
  else
    (ff_X8_figure y1 y2 y3 (6 : Int32) h).bind fun v3 =>
    K63_31 v3.1 (x3 + (1 : Int32)) v3.2
def ff_X8_readsPost_31 (x1 : Int32) (K31_85 : Int32 → hh_ → Option (Int32 × hh_)) : Nat → Int32 → Int32 → hh_ → Option (Int32 × hh_)
  | 0, _, _, _ => none
  | n9 + 1, x2, x3, h =>
    if (5 : Int32) ≤ x3 then
      K31_85 x2 h
    else
      if x2 = 0 then
        K31_85 x2 h
      else
        if (4 : Int32) ≤ x3 then
          ff_X8_readsPost_63 x1 x3 x1 (((37 : Int32) + ((5 : Int32) * (h.1 98 19))) + x3) (1 : Int32) h (fun z2 z3 h8 => ff_X8_readsPost_31 x1 K31_85 n9 z2 z3 h8)
        else
          ff_X8_readsPost_63 x1 x3 x1 (((37 : Int32) + ((5 : Int32) * (h.1 98 19))) + x3) (0 : Int32) h (fun z2 z3 h8 => ff_X8_readsPost_31 x1 K31_85 n9 z2 z3 h8)
def ff_X8_readsPost_85 (x2 : Int32) (h : hh_) : Option (Int32 × hh_) :=
  if x2 = 0 then
    gd_ (bz_ x2) <|
    some (x2, (hh_sI h 98 19 ((h.1 98 19) + (0 : Int32))))
  else
    gd_ (bz_ x2) <|
    some (x2, (hh_sI h 98 19 ((h.1 98 19) + (1 : Int32))))
def ff_X8_readsPost (a1 : Int32) (h : hh_) : Option (Int32 × hh_) :=
  if (h.1 98 17) = 0 then
    some ((0 : Int32), h)
  else
    if (h.1 98 19) = (4 : Int32) then
      some ((0 : Int32), h)
    else
      ff_X8_readsPost_31 a1 (fun u5 k6 =>
        ff_X8_readsPost_85 u5 k6) FU_ (1 : Int32) (0 : Int32) (hh_sI h 98 16 ((h.1 98 16) + (1 : Int32)))
def ff_X8_goesOn_20 (x1 : Int32) (K20_108 : hh_ → Option (Int32 × hh_)) : Nat → hh_ → Option (Int32 × hh_)
  | 0, _ => none
  | n9 + 1, h =>
    gd_ (bi_ x1 4) <|
    if (h.1 103 (Int32.toNatClampNeg x1)) ≤ (h.1 98 16) then
      K20_108 h
    else
      (ff_X8_here x1 h).bind fun v2 =>
      if v2 = (32 : Int32) then
        ff_X8_goesOn_20 x1 K20_108 n9 (hh_sI h 98 16 ((h.1 98 16) + (1 : Int32)))
      else
        if v2 = (104 : Int32) then
          (ff_X8_readsHead x1 h).bind fun v8 =>
          if v8.1 = 0 then
            some ((v8.2.1 98 16), v8.2)
          else
            ff_X8_goesOn_20 x1 K20_108 n9 v8.2
        else
          if v2 = (112 : Int32) then
            (ff_X8_readsPost x1 h).bind fun v6 =>
            if v6.1 = 0 then
              some ((v6.2.1 98 16), v6.2)
            else
              ff_X8_goesOn_20 x1 K20_108 n9 v6.2
          else
            (ff_X8_readsThumb x1 h).bind fun v4 =>
            if v4.1 = 0 then
              some ((v4.2.1 98 16), v4.2)
            else
              ff_X8_goesOn_20 x1 K20_108 n9 v4.2
def ff_X8_goesOn (a1 : Int32) (h : hh_) : Option (Int32 × hh_) :=
  ff_X8_goesOn_20 a1 (fun k10 =>
    if (k10.1 98 17) = 0 then
      gd_ (bi_ a1 4) <|
      some ((k10.1 103 (Int32.toNatClampNeg a1)), k10)
    else
      some ((-9 : Int32), k10)) FU_ (hh_sI (hh_sI (hh_sI (hh_sI h 98 16 (0 : Int32)) 98 17 (0 : Int32)) 98 18 (0 : Int32)) 98 19 (0 : Int32))
def ff_X8_fault (a1 : Int32) (h : hh_) : Option (Int32 × hh_) :=
  (ff_X8_askedText a1 h).bind fun v1 =>
  if 0 ≤ v1.1 then
    (ff_X8_goesOn a1 v1.2).bind fun v3 =>
    some (v3.1, v3.2)
  else
    some (v1.1, v1.2)
def ff_X8_office_51 (K51_75 : hh_ → Option (Int32 × hh_)) : Nat → Int32 → hh_ → Option (Int32 × hh_)
  | 0, _, _ => none
  | n9 + 1, x3, h =>
    if (25 : Int32) ≤ x3 then
      K51_75 h
    else
      gd_ (bi_ x3 60) <|
      gd_ (bi_ x3 25) <|
      ff_X8_office_51 K51_75 n9 (x3 + (1 : Int32)) (hh_sI h 105 (Int32.toNatClampNeg x3) (h.1 108 (Int32.toNatClampNeg x3)))
def ff_X8_office_77 (K77_104 : hh_ → Option (Int32 × hh_)) : Nat → Int32 → hh_ → Option (Int32 × hh_)
  | 0, _, _ => none
  | n9 + 1, x3, h =>
    if (12 : Int32) ≤ x3 then
      K77_104 h
    else
      gd_ (bi_ ((25 : Int32) + x3) 60) <|
      gd_ (bi_ x3 12) <|
      ff_X8_office_77 K77_104 n9 (x3 + (1 : Int32)) (hh_sI h 106 (Int32.toNatClampNeg x3) (h.1 108 (Int32.toNatClampNeg ((25 : Int32) + x3))))
def ff_X8_office_106 (K106_133 : hh_ → Option (Int32 × hh_)) : Nat → Int32 → hh_ → Option (Int32 × hh_)
  | 0, _, _ => none
  | n9 + 1, x3, h =>
    if (20 : Int32) ≤ x3 then
      K106_133 h
    else
      gd_ (bi_ ((37 : Int32) + x3) 60) <|
      gd_ (bi_ x3 20) <|
      ff_X8_office_106 K106_133 n9 (x3 + (1 : Int32)) (hh_sI h 107 (Int32.toNatClampNeg x3) (h.1 108 (Int32.toNatClampNeg ((37 : Int32) + x3))))
def ff_X8_office_140 : Nat → Int32 → hh_ → Option (Int32 × hh_)
  | 0, _, _ => none
  | n9 + 1, x3, h =>
    if (3 : Int32) ≤ x3 then
      some ((h.1 98 10), h)
    else
      gd_ (bi_ ((1030 : Int32) * x3) 3090) <|
      ff_X8_office_140 n9 (x3 + (1 : Int32)) (hh_sI h 110 (Int32.toNatClampNeg ((1030 : Int32) * x3)) (-9 : Int32))
def ff_X8_office (a1 : Int32) (h : hh_) : Option (Int32 × hh_) :=
  (ff_X8_askedText a1 h).bind fun v1 =>
  if 0 ≤ v1.1 then
    (ff_X8_goesOn a1 v1.2).bind fun v3 =>
    if v3.1 = (-9 : Int32) then
      ff_X8_office_51 (fun k7 =>
        ff_X8_office_77 (fun k10 =>
          ff_X8_office_106 (fun k13 =>
            ff_X8_office_140 FU_ (0 : Int32) (hh_sI k13 98 21 (0 : Int32))) FU_ (0 : Int32) k10) FU_ (0 : Int32) k7) FU_ (0 : Int32) (hh_sI (hh_sI (hh_sI v3.2 98 10 (v3.2.1 98 17)) 98 11 ((hh_sI v3.2 98 10 (v3.2.1 98 17)).1 98 18)) 98 12 ((hh_sI (hh_sI v3.2 98 10 (v3.2.1 98 17)) 98 11 ((hh_sI v3.2 98 10 (v3.2.1 98 17)).1 98 18)).1 98 19))
    else
      some ((-4 : Int32), v3.2)
  else
    some (v1.1, v1.2)
def ff_X8_isHead (a1 : Int32) (h : hh_) : Int32 :=
  (ff_X8_in a1 (0 : Int32) ((h.1 98 10) - (1 : Int32)))
def ff_X8_isThumb (a1 : Int32) (h : hh_) : Int32 :=
  (ff_X8_in a1 (0 : Int32) ((h.1 98 11) - (1 : Int32)))
def ff_X8_isPost (a1 : Int32) (h : hh_) : Int32 :=
  (ff_X8_in a1 (0 : Int32) ((h.1 98 12) - (1 : Int32)))
def ff_X8_isPlace (a0 : Int32) : Int32 :=
  (ff_X8_in a0 (0 : Int32) (3 : Int32))
def ff_X8_bump (a1 : Int32) (a2 : Int32) (h : hh_) : Option (Int32) :=
  gd_ (bi_ (((5 : Int32) * a1) + a2) 25) <|
  some (h.1 105 (Int32.toNatClampNeg (((5 : Int32) * a1) + a2)))
def ff_X8_bumps (a1 : Int32) (h : hh_) : Option (Int32) :=
  (ff_X8_bump a1 (0 : Int32) h).bind fun v1 =>
  (ff_X8_bump a1 (1 : Int32) h).bind fun v3 =>
  (ff_X8_bump a1 (2 : Int32) h).bind fun v5 =>
  (ff_X8_bump a1 (3 : Int32) h).bind fun v7 =>
  some (((v1 + v3) + v5) + v7)
def ff_X8_headOf (a1 : Int32) (a2 : Int32) (h : hh_) : Option (Int32) :=
  if (5 : Int32) ≤ a2 then
    (ff_X8_bumps a1 h).bind fun v1 =>
    some (v1)
  else
    gd_ (bi_ (((5 : Int32) * a1) + a2) 25) <|
    some (h.1 105 (Int32.toNatClampNeg (((5 : Int32) * a1) + a2)))
def ff_X8_head (a1 : Int32) (a2 : Int32) (h : hh_) : Option (Int32 × hh_) :=
  if (ff_X8_isHead a1 h) = 0 then
    some ((-1 : Int32), h)
  else
    if (ff_X8_in a2 (0 : Int32) (5 : Int32)) = 0 then
      some ((-1 : Int32), h)
    else
      (ff_X8_headOf a1 a2 h).bind fun v1 =>
      some ((ff_X8_ask v1 (1 : Int32) h).1, (ff_X8_ask v1 (1 : Int32) h).2)
def ff_X8_thumb (a1 : Int32) (a2 : Int32) (h : hh_) : Option (Int32 × hh_) :=
  if (ff_X8_isThumb a1 h) = 0 then
    some ((-1 : Int32), h)
  else
    if (ff_X8_in a2 (0 : Int32) (2 : Int32)) = 0 then
      some ((-1 : Int32), h)
    else
      gd_ (bi_ (((3 : Int32) * a1) + a2) 12) <|
      some ((ff_X8_ask (h.1 106 (Int32.toNatClampNeg (((3 : Int32) * a1) + a2))) (1 : Int32) h).1, (ff_X8_ask (h.1 106 (Int32.toNatClampNeg (((3 : Int32) * a1) + a2))) (1 : Int32) h).2)
def ff_X8_post (a1 : Int32) (a2 : Int32) (h : hh_) : Option (Int32 × hh_) :=
  if (ff_X8_isPost a1 h) = 0 then
    some ((-1 : Int32), h)
  else
    if (ff_X8_in a2 (0 : Int32) (4 : Int32)) = 0 then
      some ((-1 : Int32), h)
    else
      gd_ (bi_ (((5 : Int32) * a1) + a2) 20) <|
      some ((ff_X8_ask (h.1 107 (Int32.toNatClampNeg (((5 : Int32) * a1) + a2))) (1 : Int32) h).1, (ff_X8_ask (h.1 107 (Int32.toNatClampNeg (((5 : Int32) * a1) + a2))) (1 : Int32) h).2)
def ff_X8_isA_24 (x2 : Int32) (x3 : Int32) (h : hh_) : Option (Int32) :=
  if x2 = (3 : Int32) then
    if x3 = (4 : Int32) then
      some (1 : Int32)
    else
      some (0 : Int32)
  else
    some (0 : Int32)
def ff_X8_isA (a1 : Int32) (a2 : Int32) (h : hh_) : Option (Int32) :=
  gd_ (bi_ ((3 : Int32) * a1) 12) <|
  if (h.1 106 (Int32.toNatClampNeg ((3 : Int32) * a1))) = a2 then
    some (1 : Int32)
  else
    if a2 = (1 : Int32) then
      if (h.1 106 (Int32.toNatClampNeg ((3 : Int32) * a1))) = (5 : Int32) then
        some (1 : Int32)
      else
        ff_X8_isA_24 a2 (h.1 106 (Int32.toNatClampNeg ((3 : Int32) * a1))) h
    else
      ff_X8_isA_24 a2 (h.1 106 (Int32.toNatClampNeg ((3 : Int32) * a1))) h
def ff_X8_felt (a1 : Int32) (a2 : Int32) (h : hh_) : Option (Int32) :=
  (ff_X8_bump a1 a2 h).bind fun v1 =>
  gd_ (bi_ (((5 : Int32) * a1) + (4 : Int32)) 25) <|
  if (h.1 105 (Int32.toNatClampNeg (((5 : Int32) * a1) + (4 : Int32)))) ≤ (1 : Int32) then
    some (ff_X8_greater (0 : Int32) (v1 - (0 : Int32)))
  else
    some (ff_X8_greater (0 : Int32) (v1 - (1 : Int32)))
def ff_X8_middleOf (a0 : Int32) (a1 : Int32) (a2 : Int32) (a3 : Int32) : Int32 :=
  if a0 = (1 : Int32) then
    (ff_X8_greater (0 : Int32) (a2 - (1 : Int32)))
  else
    if a0 = (2 : Int32) then
      (a2 + (1 : Int32))
    else
      if a0 = (3 : Int32) then
        if a3 = a1 then
          (a2 + (1 : Int32))
        else
          (a2 + (0 : Int32))
      else
        if a0 = (4 : Int32) then
          if a3 = a1 then
            (a2 + (2 : Int32))
          else
            (a2 + (1 : Int32))
        else
          if a0 = (5 : Int32) then
            (ff_X8_lesser (3 : Int32) (ff_X8_greater (0 : Int32) (a2 - (1 : Int32))))
          else
            a2
def ff_X8_middle (a1 : Int32) (a2 : Int32) (a3 : Int32) (h : hh_) : Option (Int32) :=
  gd_ (bi_ ((3 : Int32) * a1) 12) <|
  gd_ (bi_ (((3 : Int32) * a1) + (2 : Int32)) 12) <|
  (ff_X8_felt a2 a3 h).bind fun v3 =>
  some (ff_X8_middleOf (h.1 106 (Int32.toNatClampNeg ((3 : Int32) * a1))) (h.1 106 (Int32.toNatClampNeg (((3 : Int32) * a1) + (2 : Int32)))) v3 a3)
def ff_X8_least (a1 : Int32) (a2 : Int32) (a3 : Int32) (h : hh_) : Option (Int32) :=
  (ff_X8_middle a1 a2 a3 h).bind fun v1 =>
  gd_ (bi_ (((3 : Int32) * a1) + (1 : Int32)) 12) <|
  some (ff_X8_greater (0 : Int32) (v1 - (h.1 106 (Int32.toNatClampNeg (((3 : Int32) * a1) + (1 : Int32))))))
def ff_X8_most (a1 : Int32) (a2 : Int32) (a3 : Int32) (h : hh_) : Option (Int32) :=
  (ff_X8_middle a1 a2 a3 h).bind fun v1 =>
  gd_ (bi_ (((3 : Int32) * a1) + (1 : Int32)) 12) <|
  some (v1 + (h.1 106 (Int32.toNatClampNeg (((3 : Int32) * a1) + (1 : Int32)))))
def ff_X8_marked_75 (x1 : Int32) (x2 : Int32) (x3 : Int32) (x4 : Int32) (x5 : Int32) (x7 : Int32) (h : hh_) (K75_76 : Int32 → Option (Int32)) : Option (Int32) :=
  K75_76 (0 : Int32)
def ff_X8_marked_99 (x1 : Int32) (x2 : Int32) (x4 : Int32) (x5 : Int32) (x6 : Int32) (x7 : Int32) (y0 : Int32) (h : hh_) (K99_100 : Int32 → Int32 → Option (Int32)) : Option (Int32) :=
  K99_100 y0 (0 : Int32)
def ff_X8_marked_153 (x1 : Int32) (x2 : Int32) (x4 : Int32) (x5 : Int32) (x6 : Int32) (x7 : Int32) (y0 : Int32) (y1 : Int32) (h : hh_) (K153_32 : Int32 → Int32 → Option (Int32)) : Option (Int32) :=
  if x2 = (5 : Int32) then
    (ff_X8_middle x1 x4 x7 h).bind fun v5 =>
    if v5 = (3 : Int32) then
      K153_32 ((y0 + y1) + (1 : Int32)) (x7 + (1 : Int32))
    else
      K153_32 ((y0 + y1) + (0 : Int32)) (x7 + (1 : Int32))
  else
    K153_32 ((y0 + y1) + (0 : Int32)) (x7 + (1 : Int32))
def ff_X8_marked_124 (x1 : Int32) (x2 : Int32) (x4 : Int32) (x5 : Int32) (x6 : Int32) (x7 : Int32) (y0 : Int32) (h : hh_) (K124_32 : Int32 → Int32 → Option (Int32)) : Option (Int32) :=
  if x2 = (4 : Int32) then
    (ff_X8_least x1 x4 x7 h).bind fun v7 =>
    (ff_X8_felt x4 x7 h).bind fun v9 =>
    ff_X8_marked_153 x1 x2 x4 x5 x6 x7 y0 (v7 - v9) h K124_32
  else
    ff_X8_marked_153 x1 x2 x4 x5 x6 x7 y0 (0 : Int32) h K124_32
def ff_X8_marked_100 (x1 : Int32) (x2 : Int32) (x4 : Int32) (x5 : Int32) (x6 : Int32) (x7 : Int32) (y0 : Int32) (y1 : Int32) (h : hh_) (K100_32 : Int32 → Int32 → Option (Int32)) : Option (Int32) :=
  if x2 = (2 : Int32) then
    (ff_X8_most x1 x4 x7 h).bind fun v11 =>
    ff_X8_marked_124 x1 x2 x4 x5 x6 x7 (ff_X8_greater (y0 + y1) v11) h K100_32
  else
    ff_X8_marked_124 x1 x2 x4 x5 x6 x7 (y0 + y1) h K100_32
def ff_X8_marked_76 (x1 : Int32) (x2 : Int32) (x3 : Int32) (x4 : Int32) (x5 : Int32) (x7 : Int32) (y0 : Int32) (h : hh_) (K76_32 : Int32 → Int32 → Int32 → Option (Int32)) : Option (Int32) :=
  if x2 = (1 : Int32) then
    (ff_X8_felt x4 x7 h).bind fun v15 =>
    if v15 = 0 then
      ff_X8_marked_100 x1 x2 x4 x5 y0 x7 x3 (1 : Int32) h (fun u21 u22 =>
        K76_32 u21 y0 u22)
    else
      ff_X8_marked_99 x1 x2 x4 x5 y0 x7 x3 h (fun q17 q18 =>
        ff_X8_marked_100 x1 x2 x4 x5 y0 x7 q17 q18 h (fun u19 u20 =>
          K76_32 u19 y0 u20))
  else
    ff_X8_marked_99 x1 x2 x4 x5 y0 x7 x3 h (fun q3 q4 =>
      ff_X8_marked_100 x1 x2 x4 x5 y0 x7 q3 q4 h (fun u13 u14 =>
        K76_32 u13 y0 u14))
def ff_X8_marked_71 (x1 : Int32) (x2 : Int32) (x3 : Int32) (x4 : Int32) (x5 : Int32) (x7 : Int32) (h : hh_) (K71_76 : Int32 → Option (Int32)) : Option (Int32) :=
  K71_76 (1 : Int32)
def ff_X8_marked_32 (x1 : Int32) (x2 : Int32) (x4 : Int32) (x5 : Int32) (h : hh_) (K32_187 : Int32 → Int32 → Option (Int32)) : Nat → Int32 → Int32 → Int32 → Option (Int32)
  | 0, _, _, _ => none
  | n9 + 1, x3, x6, x7 =>
    if (4 : Int32) ≤ x7 then
      K32_187 x3 x6
    else
      if x6 = 0 then
        ff_X8_marked_75 x1 x2 x3 x4 x5 x7 h (fun q2 =>
          ff_X8_marked_76 x1 x2 x3 x4 x5 x7 q2 h (fun z3 z6 z7 => ff_X8_marked_32 x1 x2 x4 x5 h K32_187 n9 z3 z6 z7))
      else
        if x7 = x5 then
          ff_X8_marked_71 x1 x2 x3 x4 x5 x7 h (fun q23 =>
            ff_X8_marked_76 x1 x2 x3 x4 x5 x7 q23 h (fun z3 z6 z7 => ff_X8_marked_32 x1 x2 x4 x5 h K32_187 n9 z3 z6 z7))
        else
          (ff_X8_least x1 x4 x5 h).bind fun v24 =>
          (ff_X8_least x1 x4 x7 h).bind fun v26 =>
          if v24 ≤ v26 then
            ff_X8_marked_75 x1 x2 x3 x4 x5 x7 h (fun q28 =>
              ff_X8_marked_76 x1 x2 x3 x4 x5 x7 q28 h (fun z3 z6 z7 => ff_X8_marked_32 x1 x2 x4 x5 h K32_187 n9 z3 z6 z7))
          else
            ff_X8_marked_71 x1 x2 x3 x4 x5 x7 h (fun q29 =>
              ff_X8_marked_76 x1 x2 x3 x4 x5 x7 q29 h (fun z3 z6 z7 => ff_X8_marked_32 x1 x2 x4 x5 h K32_187 n9 z3 z6 z7))
def ff_X8_marked_5 (x1 : Int32) (x2 : Int32) (h : hh_) : Nat → Int32 → Int32 → Option (Int32)
  | 0, _, _ => none
  | n9 + 1, x3, x4 =>
    if (h.1 98 10) ≤ x4 then
      some (x3)
    else
      gd_ (bi_ (((3 : Int32) * x1) + (2 : Int32)) 12) <|
      ff_X8_marked_32 x1 x2 x4 (h.1 106 (Int32.toNatClampNeg (((3 : Int32) * x1) + (2 : Int32)))) h (fun u30 u31 =>
        if x2 = (3 : Int32) then
          if u31 = 0 then
            ff_X8_marked_5 x1 x2 h n9 (u30 + (0 : Int32)) (x4 + (1 : Int32))
          else
            ff_X8_marked_5 x1 x2 h n9 (u30 + (1 : Int32)) (x4 + (1 : Int32))
        else
          ff_X8_marked_5 x1 x2 h n9 (u30 + (0 : Int32)) (x4 + (1 : Int32))) FU_ x3 (1 : Int32) (0 : Int32)
def ff_X8_marked (a1 : Int32) (a2 : Int32) (h : hh_) : Option (Int32) :=
  ff_X8_marked_5 a1 a2 h FU_ (0 : Int32) (0 : Int32)
def ff_X8_mark (a1 : Int32) (a2 : Int32) (h : hh_) : Option (Int32 × hh_) :=
  if (ff_X8_isThumb a1 h) = 0 then
    some ((-1 : Int32), h)
  else
    if (ff_X8_in a2 (1 : Int32) (5 : Int32)) = 0 then
      some ((-1 : Int32), h)
    else
      (ff_X8_isA a1 a2 h).bind fun v1 =>
      if v1 = 0 then
        (ff_X8_meet (3 : Int32) h).bind fun v3 =>
        some (v3.1, v3.2)
      else
        (ff_X8_marked a1 a2 h).bind fun v5 =>
        some (v5, h)
def ff_X8_error (a1 : Int32) (a2 : Int32) (h : hh_) : Option (Int32 × hh_) :=
  if (ff_X8_isThumb a1 h) = 0 then
    some ((-1 : Int32), h)
  else
    if (ff_X8_in a2 (0 : Int32) (2 : Int32)) = 0 then
      some ((-1 : Int32), h)
    else
      gd_ (bi_ (((3 : Int32) * a1) + (1 : Int32)) 12) <|
      some ((h.1 106 (Int32.toNatClampNeg (((3 : Int32) * a1) + (1 : Int32)))), (hh_sI h 106 (Int32.toNatClampNeg (((3 : Int32) * a1) + (1 : Int32))) a2))
def ff_X8_write_2 (x1 : Nat) (x2 : Int32) : Nat → Int32 → hh_ → Option (hh_)
  | 0, _, _ => none
  | n9 + 1, x3, h =>
    if (25 : Int32) ≤ x3 then
      some (h)
    else
      gd_ (bi_ x3 25) <|
      gd_ (bp_ x1 (x2 + x3)) <|
      ff_X8_write_2 x1 x2 n9 (x3 + (1 : Int32)) (hh_sI h x1 (Int32.toNatClampNeg (x2 + x3)) (h.1 105 (Int32.toNatClampNeg x3)))
def ff_X8_write (a1 : Nat) (a2 : Int32) (h : hh_) : Option (hh_) :=
  ff_X8_write_2 a1 a2 FU_ (0 : Int32) h
def ff_X8_readBack_2 (x1 : Nat) (x2 : Int32) : Nat → Int32 → hh_ → Option (hh_)
  | 0, _, _ => none
  | n9 + 1, x3, h =>
    if (25 : Int32) ≤ x3 then
      some (h)
    else
      gd_ (bp_ x1 (x2 + x3)) <|
      gd_ (bi_ x3 25) <|
      ff_X8_readBack_2 x1 x2 n9 (x3 + (1 : Int32)) (hh_sI h 105 (Int32.toNatClampNeg x3) (h.1 x1 (Int32.toNatClampNeg (x2 + x3))))
def ff_X8_readBack (a1 : Nat) (a2 : Int32) (h : hh_) : Option (hh_) :=
  ff_X8_readBack_2 a1 a2 FU_ (0 : Int32) h
def ff_X8_note (h : hh_) : Option (hh_) :=
  (ff_X8_write 109 ((25 : Int32) * (h.1 98 21)) h).bind fun v1 =>
  some (hh_sI v1 98 21 ((v1.1 98 21) + (1 : Int32)))
def ff_X8_pad (a1 : Int32) (a2 : Int32) (h : hh_) : Option (Int32 × hh_) :=
  if (ff_X8_isHead a1 h) = 0 then
    some ((-1 : Int32), h)
  else
    if (ff_X8_isPlace a2) = 0 then
      some ((-1 : Int32), h)
    else
      (ff_X8_bump a1 a2 h).bind fun v1 =>
      if v1 = (5 : Int32) then
        some ((-4 : Int32), h)
      else
        if (h.1 98 21) = (40 : Int32) then
          some ((-2 : Int32), h)
        else
          (ff_X8_note h).bind fun v3 =>
          gd_ (bi_ (((5 : Int32) * a1) + a2) 25) <|
          (ff_X8_bump a1 a2 (hh_sI v3 105 (Int32.toNatClampNeg (((5 : Int32) * a1) + a2)) ((v3.1 105 (Int32.toNatClampNeg (((5 : Int32) * a1) + a2))) + (1 : Int32)))).bind fun v6 =>
          some (v6, (hh_sI v3 105 (Int32.toNatClampNeg (((5 : Int32) * a1) + a2)) ((v3.1 105 (Int32.toNatClampNeg (((5 : Int32) * a1) + a2))) + (1 : Int32))))
def ff_X8_grow_28 (x1 : Int32) : Nat → Int32 → hh_ → Option (Int32 × hh_)
  | 0, _, _ => none
  | n9 + 1, x2, h =>
    if (4 : Int32) ≤ x2 then
      (ff_X8_bumps x1 h).bind fun v3 =>
      some (v3, h)
    else
      (ff_X8_bump x1 x2 h).bind fun v5 =>
      gd_ (bi_ (((5 : Int32) * x1) + x2) 25) <|
      ff_X8_grow_28 x1 n9 (x2 + (1 : Int32)) (hh_sI h 105 (Int32.toNatClampNeg (((5 : Int32) * x1) + x2)) (ff_X8_lesser (5 : Int32) (v5 + (1 : Int32))))
def ff_X8_grow (a1 : Int32) (h : hh_) : Option (Int32 × hh_) :=
  if (ff_X8_isHead a1 h) = 0 then
    some ((-1 : Int32), h)
  else
    if (h.1 98 21) = (40 : Int32) then
      some ((-2 : Int32), h)
    else
      (ff_X8_note h).bind fun v1 =>
      ff_X8_grow_28 a1 FU_ (0 : Int32) v1
def ff_X8_cut (a1 : Int32) (a2 : Int32) (h : hh_) : Option (Int32 × hh_) :=
  if (ff_X8_isHead a1 h) = 0 then
    some ((-1 : Int32), h)
  else
    if (ff_X8_in a2 (0 : Int32) (2 : Int32)) = 0 then
      some ((-1 : Int32), h)
    else
      gd_ (bi_ (((5 : Int32) * a1) + (4 : Int32)) 25) <|
      if a2 < (h.1 105 (Int32.toNatClampNeg (((5 : Int32) * a1) + (4 : Int32)))) then
        if (h.1 98 21) = (40 : Int32) then
          some ((-2 : Int32), h)
        else
          (ff_X8_note h).bind fun v2 =>
          some ((h.1 105 (Int32.toNatClampNeg (((5 : Int32) * a1) + (4 : Int32)))), (hh_sI v2 105 (Int32.toNatClampNeg (((5 : Int32) * a1) + (4 : Int32))) a2))
      else
        some ((-4 : Int32), h)
def ff_X8_undo (a1 : Int32) (h : hh_) : Option (Int32 × hh_) :=
  if (ff_X8_in a1 (0 : Int32) (h.1 98 21)) = 0 then
    some ((-1 : Int32), h)
  else
    if ((h.1 98 21) - a1) ≤ 0 then
      some (((h.1 98 21) - a1), h)
    else
      (ff_X8_readBack 109 ((25 : Int32) * a1) h).bind fun v1 =>
      some (((h.1 98 21) - a1), (hh_sI v1 98 21 a1))
def ff_X8_keep_39 (x2 : Int32) (K39_70 : hh_ → Option (Int32 × hh_)) : Nat → Int32 → hh_ → Option (Int32 × hh_)
  | 0, _, _ => none
  | n9 + 1, x3, h =>
    if (4 : Int32) ≤ x3 then
      K39_70 h
    else
      gd_ (bi_ (((3 : Int32) * x3) + (1 : Int32)) 12) <|
      gd_ (bi_ ((x2 + (1 : Int32)) + x3) 3090) <|
      ff_X8_keep_39 x2 K39_70 n9 (x3 + (1 : Int32)) (hh_sI h 110 (Int32.toNatClampNeg ((x2 + (1 : Int32)) + x3)) (h.1 106 (Int32.toNatClampNeg (((3 : Int32) * x3) + (1 : Int32)))))
def ff_X8_keep_83 (x2 : Int32) : Nat → Int32 → hh_ → Option (Int32 × hh_)
  | 0, _, _ => none
  | n9 + 1, x3, h =>
    if (1000 : Int32) ≤ x3 then
      some ((h.1 98 21), h)
    else
      gd_ (bi_ x3 1000) <|
      gd_ (bi_ ((x2 + (30 : Int32)) + x3) 3090) <|
      ff_X8_keep_83 x2 n9 (x3 + (1 : Int32)) (hh_sI h 110 (Int32.toNatClampNeg ((x2 + (30 : Int32)) + x3)) (h.1 109 (Int32.toNatClampNeg x3)))
def ff_X8_keep (a1 : Int32) (h : hh_) : Option (Int32 × hh_) :=
  if (ff_X8_in a1 (0 : Int32) (2 : Int32)) = 0 then
    some ((-1 : Int32), h)
  else
    if (h.1 98 10) = 0 then
      some ((-4 : Int32), h)
    else
      gd_ (bi_ ((1030 : Int32) * a1) 3090) <|
      ff_X8_keep_39 ((1030 : Int32) * a1) (fun k4 =>
        (ff_X8_write 110 (((1030 : Int32) * a1) + (5 : Int32)) k4).bind fun v5 =>
        ff_X8_keep_83 ((1030 : Int32) * a1) FU_ (0 : Int32) v5) FU_ (0 : Int32) (hh_sI h 110 (Int32.toNatClampNeg ((1030 : Int32) * a1)) (h.1 98 21))
def ff_X8_on_46 (x2 : Int32) (K46_77 : hh_ → Option (Int32 × hh_)) : Nat → Int32 → hh_ → Option (Int32 × hh_)
  | 0, _, _ => none
  | n9 + 1, x3, h =>
    if (4 : Int32) ≤ x3 then
      K46_77 h
    else
      gd_ (bi_ ((x2 + (1 : Int32)) + x3) 3090) <|
      gd_ (bi_ (((3 : Int32) * x3) + (1 : Int32)) 12) <|
      ff_X8_on_46 x2 K46_77 n9 (x3 + (1 : Int32)) (hh_sI h 106 (Int32.toNatClampNeg (((3 : Int32) * x3) + (1 : Int32))) (h.1 110 (Int32.toNatClampNeg ((x2 + (1 : Int32)) + x3))))
def ff_X8_on_90 (x2 : Int32) : Nat → Int32 → hh_ → Option (Int32 × hh_)
  | 0, _, _ => none
  | n9 + 1, x3, h =>
    if (1000 : Int32) ≤ x3 then
      some ((h.1 98 21), h)
    else
      gd_ (bi_ ((x2 + (30 : Int32)) + x3) 3090) <|
      gd_ (bi_ x3 1000) <|
      ff_X8_on_90 x2 n9 (x3 + (1 : Int32)) (hh_sI h 109 (Int32.toNatClampNeg x3) (h.1 110 (Int32.toNatClampNeg ((x2 + (30 : Int32)) + x3))))
def ff_X8_on (a1 : Int32) (h : hh_) : Option (Int32 × hh_) :=
  if (ff_X8_in a1 (0 : Int32) (2 : Int32)) = 0 then
    some ((-1 : Int32), h)
  else
    gd_ (bi_ ((1030 : Int32) * a1) 3090) <|
    if (h.1 110 (Int32.toNatClampNeg ((1030 : Int32) * a1))) = (-9 : Int32) then
      (ff_X8_meet (1 : Int32) h).bind fun v9 =>
      some (v9.1, v9.2)
    else
      ff_X8_on_46 ((1030 : Int32) * a1) (fun k4 =>
        (ff_X8_readBack 110 (((1030 : Int32) * a1) + (5 : Int32)) k4).bind fun v5 =>
        ff_X8_on_90 ((1030 : Int32) * a1) FU_ (0 : Int32) v5) FU_ (0 : Int32) (hh_sI h 98 21 (h.1 110 (Int32.toNatClampNeg ((1030 : Int32) * a1))))
def ff_X8_reads (a1 : Int32) (a2 : Int32) (a3 : Int32) (h : hh_) : Option (Int32 × hh_) :=
  if (ff_X8_isThumb a1 h) = 0 then
    some ((-1 : Int32), h)
  else
    if (ff_X8_isHead a2 h) = 0 then
      some ((-1 : Int32), h)
    else
      if (ff_X8_isPlace a3) = 0 then
        some ((-1 : Int32), h)
      else
        (ff_X8_most a1 a2 a3 h).bind fun v1 =>
        (ff_X8_least a1 a2 a3 h).bind fun v3 =>
        some ((ff_X8_ask v1 v3 h).1, (ff_X8_ask v1 v3 h).2)
def ff_X8_askedReading_30 (x1 : Int32) (h : hh_) : Nat → Int32 → Option (Int32 × hh_)
  | 0, _ => none
  | n9 + 1, x3 =>
    if (4 : Int32) ≤ x3 then
      some ((0 : Int32), h)
    else
      (ff_X8_rowAt x1 x3 h).bind fun v4 =>
      if (ff_X8_in v4 (0 : Int32) (9 : Int32)) = 0 then
        (ff_X8_meet (3 : Int32) h).bind fun v6 =>
        some (v6.1, v6.2)
      else
        ff_X8_askedReading_30 x1 h n9 (x3 + (1 : Int32))
def ff_X8_askedReading (a1 : Int32) (h : hh_) : Option (Int32 × hh_) :=
  (ff_X8_askedRow a1 h).bind fun v1 =>
  if 0 ≤ v1.1 then
    gd_ (bi_ a1 6) <|
    if (v1.2.1 100 (Int32.toNatClampNeg a1)) = (4 : Int32) then
      ff_X8_askedReading_30 a1 v1.2 FU_ (0 : Int32)
    else
      (ff_X8_meet (5 : Int32) v1.2).bind fun v8 =>
      some (v8.1, v8.2)
  else
    some (v1.1, v1.2)
def ff_X8_doesFit_6 (x1 : Int32) (x2 : Int32) (x3 : Int32) (h : hh_) : Nat → Int32 → Int32 → Option (Int32)
  | 0, _, _ => none
  | n9 + 1, x4, x5 =>
    if (4 : Int32) ≤ x5 then
      gd_ (bz_ x4) <|
      some (x4)
    else
      if x4 = 0 then
        ff_X8_doesFit_6 x1 x2 x3 h n9 (0 : Int32) (x5 + (1 : Int32))
      else
        (ff_X8_rowAt x3 x5 h).bind fun v2 =>
        (ff_X8_least x1 x2 x5 h).bind fun v4 =>
        (ff_X8_most x1 x2 x5 h).bind fun v6 =>
        if (ff_X8_in v2 v4 v6) = 0 then
          ff_X8_doesFit_6 x1 x2 x3 h n9 (0 : Int32) (x5 + (1 : Int32))
        else
          ff_X8_doesFit_6 x1 x2 x3 h n9 (1 : Int32) (x5 + (1 : Int32))
def ff_X8_doesFit (a1 : Int32) (a2 : Int32) (a3 : Int32) (h : hh_) : Option (Int32) :=
  ff_X8_doesFit_6 a1 a2 a3 h FU_ (1 : Int32) (0 : Int32)
def ff_X8_fits (a1 : Int32) (a2 : Int32) (a3 : Int32) (h : hh_) : Option (Int32 × hh_) :=
  if (ff_X8_isThumb a1 h) = 0 then
    some ((-1 : Int32), h)
  else
    if (ff_X8_isHead a2 h) = 0 then
      some ((-1 : Int32), h)
    else
      (ff_X8_askedReading a3 h).bind fun v1 =>
      if 0 ≤ v1.1 then
        (ff_X8_doesFit a1 a2 a3 v1.2).bind fun v3 =>
        if v3 = 0 then
          some ((0 : Int32), v1.2)
        else
          some ((1 : Int32), v1.2)
      else
        some (v1.1, v1.2)
def ff_X8_headsBy_5 (x1 : Int32) (x2 : Int32) (h : hh_) : Nat → Int32 → Int32 → Option (Int32)
  | 0, _, _ => none
  | n9 + 1, x3, x4 =>
    if (h.1 98 10) ≤ x4 then
      some (x3)
    else
      (ff_X8_doesFit x1 x4 x2 h).bind fun v1 =>
      if v1 = 0 then
        ff_X8_headsBy_5 x1 x2 h n9 (x3 ||| (0 : Int32)) (x4 + (1 : Int32))
      else
        ff_X8_headsBy_5 x1 x2 h n9 (x3 ||| ((1 : Int32) <<< (x4 &&& 31))) (x4 + (1 : Int32))
def ff_X8_headsBy (a1 : Int32) (a2 : Int32) (h : hh_) : Option (Int32) :=
  ff_X8_headsBy_5 a1 a2 h FU_ (0 : Int32) (0 : Int32)
def ff_X8_whose_28 (x1 : Int32) (x2 : Int32) (h : hh_) : Nat → Int32 → Int32 → Option (Int32 × hh_)
  | 0, _, _ => none
  | n9 + 1, x4, x5 =>
    if (h.1 98 11) ≤ x5 then
      (ff_X8_headsBy x1 x2 h).bind fun v3 =>
      some ((ff_X8_ask x4 v3 h).1, (ff_X8_ask x4 v3 h).2)
    else
      (ff_X8_headsBy x5 x2 h).bind fun v5 =>
      ff_X8_whose_28 x1 x2 h n9 (x4 ||| v5) (x5 + (1 : Int32))
def ff_X8_whose (a1 : Int32) (a2 : Int32) (h : hh_) : Option (Int32 × hh_) :=
  if (ff_X8_isThumb a1 h) = 0 then
    some ((-1 : Int32), h)
  else
    (ff_X8_askedReading a2 h).bind fun v1 =>
    if 0 ≤ v1.1 then
      ff_X8_whose_28 a1 a2 v1.2 FU_ (0 : Int32) (0 : Int32)
    else
      some (v1.1, v1.2)
def ff_X8_who_28 (x1 : Int32) (x2 : Int32) (h : hh_) : Nat → Int32 → Int32 → Option (Int32 × hh_)
  | 0, _, _ => none
  | n9 + 1, x4, x5 =>
    if (h.1 98 11) ≤ x5 then
      some (x4, h)
    else
      (ff_X8_doesFit x5 x1 x2 h).bind fun v3 =>
      if v3 = 0 then
        ff_X8_who_28 x1 x2 h n9 (x4 ||| (0 : Int32)) (x5 + (1 : Int32))
      else
        ff_X8_who_28 x1 x2 h n9 (x4 ||| ((1 : Int32) <<< (x5 &&& 31))) (x5 + (1 : Int32))
def ff_X8_who (a1 : Int32) (a2 : Int32) (h : hh_) : Option (Int32 × hh_) :=
  if (ff_X8_isHead a1 h) = 0 then
    some ((-1 : Int32), h)
  else
    (ff_X8_askedReading a2 h).bind fun v1 =>
    if 0 ≤ v1.1 then
      ff_X8_who_28 a1 a2 v1.2 FU_ (0 : Int32) (0 : Int32)
    else
      some (v1.1, v1.2)
def ff_X8_spread (a1 : Int32) (a2 : Int32) (a3 : Int32) (h : hh_) : Option (Int32) :=
  (ff_X8_most a1 a2 a3 h).bind fun v1 =>
  (ff_X8_least a1 a2 a3 h).bind fun v3 =>
  some ((v1 - v3) + (1 : Int32))
def ff_X8_weight_20 (x1 : Int32) (x2 : Int32) (h : hh_) : Nat → Int64 → Int32 → Option (Int64)
  | 0, _, _ => none
  | n9 + 1, x4, x6 =>
    if (4 : Int32) ≤ x6 then
      some (x4)
    else
      (ff_X8_spread x1 x2 x6 h).bind fun v3 =>
      gd_ (bn_ v3) <|
      ff_X8_weight_20 x1 x2 h n9 (x4 * (Int32.toInt64 ((60 : Int32) / v3))) (x6 + (1 : Int32))
def ff_X8_weight_15 (x1 : Int32) (x2 : Int32) (y0 : Int64) (h : hh_) : Option (Int64) :=
  ff_X8_weight_20 x1 x2 h FU_ y0 (0 : Int32)
def ff_X8_weight (a1 : Int32) (a2 : Int32) (a3 : Int32) (h : hh_) : Option (Int64) :=
  (ff_X8_doesFit a1 a2 a3 h).bind fun v1 =>
  if v1 = 0 then
    ff_X8_weight_15 a1 a2 (0 : Int64) h
  else
    ff_X8_weight_15 a1 a2 (1 : Int64) h
def ff_X8_odds_39 (x1 : Int32) (x2 : Int32) (x3 : Int32) (h : hh_) (K39_67 : Int64 → Option (Int32 × hh_)) : Nat → Int64 → Int32 → Option (Int32 × hh_)
  | 0, _, _ => none
  | n9 + 1, x5, x7 =>
    if (h.1 98 10) ≤ x7 then
      K39_67 x5
    else
      (ff_X8_weight x1 x7 x3 h).bind fun v3 =>
      ff_X8_odds_39 x1 x2 x3 h K39_67 n9 (x5 + v3) (x7 + (1 : Int32))
def ff_X8_odds (a1 : Int32) (a2 : Int32) (a3 : Int32) (h : hh_) : Option (Int32 × hh_) :=
  if (ff_X8_isThumb a1 h) = 0 then
    some ((-1 : Int32), h)
  else
    if (ff_X8_isHead a2 h) = 0 then
      some ((-1 : Int32), h)
    else
      (ff_X8_askedReading a3 h).bind fun v1 =>
      if 0 ≤ v1.1 then
        ff_X8_odds_39 a1 a2 a3 v1.2 (fun u5 =>
          if (lg_cmp u5 (0 : Int64)) = 0 then
            (ff_X8_meet (4 : Int32) v1.2).bind fun v10 =>
            some (v10.1, v10.2)
          else
            (ff_X8_weight a1 a2 a3 v1.2).bind fun v6 =>
            (ff_X8_part v6 u5 v1.2).bind fun v8 =>
            some (v8.1, v8.2)) FU_ (0 : Int64) (0 : Int32)
      else
        some (v1.1, v1.2)
def ff_X8_areApart (a1 : Int32) (a2 : Int32) (a3 : Int32) (a4 : Int32) (h : hh_) : Option (Int32) :=
  (ff_X8_most a1 a2 a4 h).bind fun v1 =>
  (ff_X8_least a1 a3 a4 h).bind fun v3 =>
  if v1 < v3 then
    some (1 : Int32)
  else
    (ff_X8_most a1 a3 a4 h).bind fun v5 =>
    (ff_X8_least a1 a2 a4 h).bind fun v7 =>
    if v7 ≤ v5 then
      some (0 : Int32)
    else
      some (1 : Int32)
def ff_X8_look_44 (x1 : Int32) (x2 : Int32) (x3 : Int32) (x4 : Int32) (x6 : Int32) (h : hh_) (K44_83 : Int32 → Option (Int32 × hh_)) : Nat → Int32 → Int32 → Option (Int32 × hh_)
  | 0, _, _ => none
  | n9 + 1, x5, x7 =>
    if (h.1 98 10) ≤ x7 then
      K44_83 x5
    else
      (ff_X8_areApart x1 x6 x7 x4 h).bind fun v1 =>
      if v1 = 0 then
        ff_X8_look_44 x1 x2 x3 x4 x6 h K44_83 n9 (x5 + (0 : Int32)) (x7 + (1 : Int32))
      else
        ff_X8_look_44 x1 x2 x3 x4 x6 h K44_83 n9 (x5 + (1 : Int32)) (x7 + (1 : Int32))
def ff_X8_look_29 (x1 : Int32) (x2 : Int32) (x3 : Int32) (x4 : Int32) (h : hh_) (K29_89 : Int32 → Option (Int32 × hh_)) : Nat → Int32 → Int32 → Option (Int32 × hh_)
  | 0, _, _ => none
  | n9 + 1, x5, x6 =>
    if (h.1 98 10) ≤ x6 then
      K29_89 x5
    else
      ff_X8_look_44 x1 x2 x3 x4 x6 h (fun u3 =>
        ff_X8_look_29 x1 x2 x3 x4 h K29_89 n9 u3 (x6 + (1 : Int32))) FU_ x5 (x6 + (1 : Int32))
def ff_X8_look_17 (x1 : Int32) (h : hh_) : Nat → Int32 → Int32 → Int32 → Option (Int32 × hh_)
  | 0, _, _, _ => none
  | n9 + 1, x2, x3, x4 =>
    if (4 : Int32) ≤ x4 then
      some ((ff_X8_ask x3 x2 h).1, (ff_X8_ask x3 x2 h).2)
    else
      ff_X8_look_29 x1 x2 x3 x4 h (fun u4 =>
        if u4 ≤ x3 then
          ff_X8_look_17 x1 h n9 x2 (ff_X8_greater u4 x3) (x4 + (1 : Int32))
        else
          ff_X8_look_17 x1 h n9 x4 (ff_X8_greater u4 x3) (x4 + (1 : Int32))) FU_ (0 : Int32) (0 : Int32)
def ff_X8_look (a1 : Int32) (h : hh_) : Option (Int32 × hh_) :=
  if (ff_X8_isThumb a1 h) = 0 then
    some ((-1 : Int32), h)
  else
    ff_X8_look_17 a1 h FU_ (0 : Int32) (0 : Int32) (0 : Int32)
def ff_X8_alike_38 (x1 : Int32) (x2 : Int32) (x3 : Int32) (x4 : Int32) (h : hh_) (K38_75 : Int32 → Option (Int32)) : Nat → Int32 → Int32 → Option (Int32)
  | 0, _, _ => none
  | n9 + 1, x5, x6 =>
    if (4 : Int32) ≤ x6 then
      K38_75 x5
    else
      if x5 = 0 then
        (ff_X8_areApart x1 x4 x2 x6 h).bind fun v1 =>
        if v1 = 0 then
          ff_X8_alike_38 x1 x2 x3 x4 h K38_75 n9 (0 : Int32) (x6 + (1 : Int32))
        else
          ff_X8_alike_38 x1 x2 x3 x4 h K38_75 n9 (1 : Int32) (x6 + (1 : Int32))
      else
        ff_X8_alike_38 x1 x2 x3 x4 h K38_75 n9 (1 : Int32) (x6 + (1 : Int32))
def ff_X8_alike_23 (x1 : Int32) (x2 : Int32) (h : hh_) : Nat → Int32 → Int32 → Option (Int32)
  | 0, _, _ => none
  | n9 + 1, x3, x4 =>
    if (h.1 98 10) ≤ x4 then
      some (x3)
    else
      ff_X8_alike_38 x1 x2 x3 x4 h (fun u3 =>
        if u3 = 0 then
          ff_X8_alike_23 x1 x2 h n9 (x3 ||| ((1 : Int32) <<< (x4 &&& 31))) (x4 + (1 : Int32))
        else
          ff_X8_alike_23 x1 x2 h n9 (x3 ||| (0 : Int32)) (x4 + (1 : Int32))) FU_ (0 : Int32) (0 : Int32)
def ff_X8_alike (a1 : Int32) (a2 : Int32) (h : hh_) : Option (Int32) :=
  if (ff_X8_isThumb a1 h) = 0 then
    some (-1 : Int32)
  else
    if (ff_X8_isHead a2 h) = 0 then
      some (-1 : Int32)
    else
      ff_X8_alike_23 a1 a2 h FU_ (0 : Int32) (0 : Int32)
def ff_X8_need (a1 : Int32) (a2 : Int32) (h : hh_) : Option (Int32) :=
  gd_ (bi_ (((5 : Int32) * a1) + a2) 20) <|
  some (h.1 107 (Int32.toNatClampNeg (((5 : Int32) * a1) + a2)))
def ff_X8_suitsOf_42 (x1 : Int32) (x2 : Int32) (x3 : Int32) (x5 : Int32) (x6 : Int32) (h : hh_) (K42_43 : Int32 → Option (Int32)) : Option (Int32) :=
  K42_43 (0 : Int32)
def ff_X8_suitsOf_43 (x1 : Int32) (x2 : Int32) (x3 : Int32) (x5 : Int32) (x6 : Int32) (y0 : Int32) (h : hh_) (K43_9 : Int32 → Int32 → Int32 → Option (Int32)) : Option (Int32) :=
  if x5 = 0 then
    K43_9 y0 (0 : Int32) (x6 + (1 : Int32))
  else
    (ff_X8_most x1 x2 x6 h).bind fun v2 =>
    (ff_X8_need x3 x6 h).bind fun v4 =>
    if v2 < v4 then
      K43_9 y0 (0 : Int32) (x6 + (1 : Int32))
    else
      K43_9 y0 (1 : Int32) (x6 + (1 : Int32))
def ff_X8_suitsOf_9 (x1 : Int32) (x2 : Int32) (x3 : Int32) (h : hh_) (K9_81 : Int32 → Int32 → Option (Int32)) : Nat → Int32 → Int32 → Int32 → Option (Int32)
  | 0, _, _, _ => none
  | n9 + 1, x4, x5, x6 =>
    if (4 : Int32) ≤ x6 then
      K9_81 x4 x5
    else
      if x4 = 0 then
        ff_X8_suitsOf_42 x1 x2 x3 x5 x6 h (fun q1 =>
          ff_X8_suitsOf_43 x1 x2 x3 x5 x6 q1 h (fun z4 z5 z6 => ff_X8_suitsOf_9 x1 x2 x3 h K9_81 n9 z4 z5 z6))
      else
        (ff_X8_least x1 x2 x6 h).bind fun v6 =>
        (ff_X8_need x3 x6 h).bind fun v8 =>
        if v6 < v8 then
          ff_X8_suitsOf_42 x1 x2 x3 x5 x6 h (fun q10 =>
            ff_X8_suitsOf_43 x1 x2 x3 x5 x6 q10 h (fun z4 z5 z6 => ff_X8_suitsOf_9 x1 x2 x3 h K9_81 n9 z4 z5 z6))
        else
          ff_X8_suitsOf_43 x1 x2 x3 x5 x6 (1 : Int32) h (fun z4 z5 z6 => ff_X8_suitsOf_9 x1 x2 x3 h K9_81 n9 z4 z5 z6)
def ff_X8_suitsOf (a1 : Int32) (a2 : Int32) (a3 : Int32) (h : hh_) : Option (Int32) :=
  ff_X8_suitsOf_9 a1 a2 a3 h (fun u11 u12 =>
    if u11 = 0 then
      if u12 = 0 then
        some (0 : Int32)
      else
        some (1 : Int32)
    else
      some (2 : Int32)) FU_ (1 : Int32) (1 : Int32) (0 : Int32)
def ff_X8_suits (a1 : Int32) (a2 : Int32) (a3 : Int32) (h : hh_) : Option (Int32) :=
  if (ff_X8_isThumb a1 h) = 0 then
    some (-1 : Int32)
  else
    if (ff_X8_isHead a2 h) = 0 then
      some (-1 : Int32)
    else
      if (ff_X8_isPost a3 h) = 0 then
        some (-1 : Int32)
      else
        (ff_X8_suitsOf a1 a2 a3 h).bind fun v1 =>
        some (v1)
def ff_X8_luck_35 (x1 : Int32) (x2 : Int32) (x3 : Int32) (h : hh_) : Nat → Int64 → Int64 → Int32 → Option (Int32 × hh_)
  | 0, _, _, _ => none
  | n9 + 1, x4, x6, x8 =>
    if (4 : Int32) ≤ x8 then
      (ff_X8_part x4 x6 h).bind fun v1 =>
      some (v1.1, v1.2)
    else
      (ff_X8_least x1 x2 x8 h).bind fun v3 =>
      (ff_X8_need x3 x8 h).bind fun v5 =>
      (ff_X8_most x1 x2 x8 h).bind fun v7 =>
      (ff_X8_spread x1 x2 x8 h).bind fun v9 =>
      ff_X8_luck_35 x1 x2 x3 h n9 (x4 * (Int32.toInt64 (ff_X8_greater (0 : Int32) ((v7 - (ff_X8_greater v3 v5)) + (1 : Int32))))) (x6 * (Int32.toInt64 v9)) (x8 + (1 : Int32))
def ff_X8_luck (a1 : Int32) (a2 : Int32) (a3 : Int32) (h : hh_) : Option (Int32 × hh_) :=
  if (ff_X8_isThumb a1 h) = 0 then
    some ((-1 : Int32), h)
  else
    if (ff_X8_isHead a2 h) = 0 then
      some ((-1 : Int32), h)
    else
      if (ff_X8_isPost a3 h) = 0 then
        some ((-1 : Int32), h)
      else
        ff_X8_luck_35 a1 a2 a3 h FU_ (1 : Int64) (1 : Int64) (0 : Int32)
def ff_X8_padsAt_16 (x1 : Int32) (x2 : Int32) (x3 : Int32) (x4 : Int32) (x5 : Int32) : Nat → Int32 → Int32 → hh_ → Option (Int32 × hh_)
  | 0, _, _, _ => none
  | n9 + 1, x6, x7, h =>
    if x7 < x5 then
      gd_ (bi_ (((5 : Int32) * x2) + x4) 25) <|
      some (x6, (hh_sI h 105 (Int32.toNatClampNeg (((5 : Int32) * x2) + x4)) x5))
    else
      gd_ (bi_ (((5 : Int32) * x2) + x4) 25) <|
      (ff_X8_least x1 x2 x4 (hh_sI h 105 (Int32.toNatClampNeg (((5 : Int32) * x2) + x4)) x7)).bind fun v5 =>
      (ff_X8_need x3 x4 (hh_sI h 105 (Int32.toNatClampNeg (((5 : Int32) * x2) + x4)) x7)).bind fun v7 =>
      if v5 < v7 then
        ff_X8_padsAt_16 x1 x2 x3 x4 x5 n9 x6 (x7 + (-1 : Int32)) (hh_sI h 105 (Int32.toNatClampNeg (((5 : Int32) * x2) + x4)) x7)
      else
        ff_X8_padsAt_16 x1 x2 x3 x4 x5 n9 (x7 - x5) (x7 + (-1 : Int32)) (hh_sI h 105 (Int32.toNatClampNeg (((5 : Int32) * x2) + x4)) x7)
def ff_X8_padsAt (a1 : Int32) (a2 : Int32) (a3 : Int32) (a4 : Int32) (h : hh_) : Option (Int32 × hh_) :=
  (ff_X8_bump a2 a4 h).bind fun v1 =>
  ff_X8_padsAt_16 a1 a2 a3 a4 v1 FU_ (-9 : Int32) (5 : Int32) h
def ff_X8_pads_40 (x1 : Int32) (x2 : Int32) (x3 : Int32) (x4 : Int32) (K40_80 : Int32 → hh_ → Option (Int32 × hh_)) : Nat → Int32 → Int32 → hh_ → Option (Int32 × hh_)
  | 0, _, _, _ => none
  | n9 + 1, x5, x6, h =>
    if (4 : Int32) ≤ x6 then
      K40_80 x5 h
    else
      (ff_X8_padsAt x1 x2 x3 x6 h).bind fun v1 =>
      if v1.1 = (-9 : Int32) then
        some ((-9 : Int32), v1.2)
      else
        ff_X8_pads_40 x1 x2 x3 x4 K40_80 n9 (x5 + v1.1) (x6 + (1 : Int32)) v1.2
def ff_X8_pads_91 (x1 : Int32) (x2 : Int32) (x3 : Int32) (x4 : Int32) (x5 : Int32) : Nat → Int32 → hh_ → Option (Int32 × hh_)
  | 0, _, _ => none
  | n9 + 1, x6, h =>
    if (4 : Int32) ≤ x6 then
      some (x5, h)
    else
      (ff_X8_padsAt x1 x2 x3 x6 h).bind fun v7 =>
      (ff_X8_setRow x4 x6 v7.1 v7.2).bind fun v9 =>
      ff_X8_pads_91 x1 x2 x3 x4 x5 n9 (x6 + (1 : Int32)) v9
def ff_X8_pads (a1 : Int32) (a2 : Int32) (a3 : Int32) (a4 : Int32) (h : hh_) : Option (Int32 × hh_) :=
  if (ff_X8_isThumb a1 h) = 0 then
    some ((-1 : Int32), h)
  else
    if (ff_X8_isHead a2 h) = 0 then
      some ((-1 : Int32), h)
    else
      if (ff_X8_isPost a3 h) = 0 then
        some ((-1 : Int32), h)
      else
        if (ff_X8_isRow a4) = 0 then
          some ((-1 : Int32), h)
        else
          ff_X8_pads_40 a1 a2 a3 a4 (fun u3 k4 =>
            (ff_X8_row a4 (4 : Int32) k4).bind fun v5 =>
            ff_X8_pads_91 a1 a2 a3 a4 u3 FU_ (0 : Int32) v5.2) FU_ (0 : Int32) (0 : Int32) h
def ff_X8_all_45 (x1 : Int32) (x2 : Int32) (x3 : Int32) (x4 : Int32) (K45_91 : Int32 → hh_ → Option (Int32 × hh_)) : Nat → Int32 → Int32 → hh_ → Option (Int32 × hh_)
  | 0, _, _, _ => none
  | n9 + 1, x5, x6, h =>
    if (h.1 98 11) ≤ x6 then
      K45_91 x5 h
    else
      (ff_X8_padsAt x6 x1 x2 x4 h).bind fun v1 =>
      if v1.1 = (-9 : Int32) then
        some ((-9 : Int32), v1.2)
      else
        ff_X8_all_45 x1 x2 x3 x4 K45_91 n9 (ff_X8_greater x5 v1.1) (x6 + (1 : Int32)) v1.2
def ff_X8_all_33 (x1 : Int32) (x2 : Int32) : Nat → Int32 → Int32 → hh_ → Option (Int32 × hh_)
  | 0, _, _, _ => none
  | n9 + 1, x3, x4, h =>
    if (4 : Int32) ≤ x4 then
      some (x3, h)
    else
      ff_X8_all_45 x1 x2 x3 x4 (fun u3 k4 =>
        ff_X8_all_33 x1 x2 n9 (x3 + u3) (x4 + (1 : Int32)) k4) FU_ (0 : Int32) (0 : Int32) h
def ff_X8_all (a1 : Int32) (a2 : Int32) (h : hh_) : Option (Int32 × hh_) :=
  if (ff_X8_isHead a1 h) = 0 then
    some ((-1 : Int32), h)
  else
    if (ff_X8_isPost a2 h) = 0 then
      some ((-1 : Int32), h)
    else
      if (h.1 98 11) = 0 then
        some ((-4 : Int32), h)
      else
        ff_X8_all_33 a1 a2 FU_ (0 : Int32) (0 : Int32) h
def ff_X8_finds_115 (x1 : Int32) (x2 : Int32) (x3 : Int32) (x4 : Int32) (x5 : Int32) (h : hh_) (K115_120 : Int32 → Option (Int32 × hh_)) : Option (Int32 × hh_) :=
  K115_120 (1 : Int32)
def ff_X8_finds_120 (x1 : Int32) (x2 : Int32) (x3 : Int32) (x4 : Int32) (x5 : Int32) (y0 : Int32) (h : hh_) (K120_50 : Int32 → Int32 → hh_ → Option (Int32 × hh_)) : Option (Int32 × hh_) :=
  gd_ (bi_ (((5 : Int32) * x2) + x3) 25) <|
  if x5 = x1 then
    K120_50 x4 (x5 + (-1 : Int32)) (hh_sI h 105 (Int32.toNatClampNeg (((5 : Int32) * x2) + x3)) ((h.1 105 (Int32.toNatClampNeg (((5 : Int32) * x2) + x3))) - (1 : Int32)))
  else
    if y0 = 0 then
      K120_50 x4 (x5 + (-1 : Int32)) (hh_sI h 105 (Int32.toNatClampNeg (((5 : Int32) * x2) + x3)) ((h.1 105 (Int32.toNatClampNeg (((5 : Int32) * x2) + x3))) - (1 : Int32)))
    else
      K120_50 x5 (x5 + (-1 : Int32)) (hh_sI h 105 (Int32.toNatClampNeg (((5 : Int32) * x2) + x3)) ((h.1 105 (Int32.toNatClampNeg (((5 : Int32) * x2) + x3))) - (1 : Int32)))
def ff_X8_finds_50 (x1 : Int32) (x2 : Int32) (x3 : Int32) : Nat → Int32 → Int32 → hh_ → Option (Int32 × hh_)
  | 0, _, _, _ => none
  | n9 + 1, x4, x5, h =>
    if x5 < 0 then
      some (x4, h)
    else
      (ff_X8_most x5 x2 x3 h).bind fun v3 =>
      (ff_X8_least x5 x2 x3 h).bind fun v5 =>
      gd_ (bi_ (((5 : Int32) * x2) + x3) 25) <|
      (ff_X8_least x5 x2 x3 (hh_sI h 105 (Int32.toNatClampNeg (((5 : Int32) * x2) + x3)) ((h.1 105 (Int32.toNatClampNeg (((5 : Int32) * x2) + x3))) + (1 : Int32)))).bind fun v8 =>
      if v3 < v8 then
        ff_X8_finds_115 x1 x2 x3 x4 x5 (hh_sI h 105 (Int32.toNatClampNeg (((5 : Int32) * x2) + x3)) ((h.1 105 (Int32.toNatClampNeg (((5 : Int32) * x2) + x3))) + (1 : Int32))) (fun q10 =>
          ff_X8_finds_120 x1 x2 x3 x4 x5 q10 (hh_sI h 105 (Int32.toNatClampNeg (((5 : Int32) * x2) + x3)) ((h.1 105 (Int32.toNatClampNeg (((5 : Int32) * x2) + x3))) + (1 : Int32))) (fun z4 z5 h8 => ff_X8_finds_50 x1 x2 x3 n9 z4 z5 h8))
      else
        (ff_X8_most x5 x2 x3 (hh_sI h 105 (Int32.toNatClampNeg (((5 : Int32) * x2) + x3)) ((h.1 105 (Int32.toNatClampNeg (((5 : Int32) * x2) + x3))) + (1 : Int32)))).bind fun v12 =>
        if v5 ≤ v12 then
          ff_X8_finds_120 x1 x2 x3 x4 x5 (0 : Int32) (hh_sI h 105 (Int32.toNatClampNeg (((5 : Int32) * x2) + x3)) ((h.1 105 (Int32.toNatClampNeg (((5 : Int32) * x2) + x3))) + (1 : Int32))) (fun z4 z5 h8 => ff_X8_finds_50 x1 x2 x3 n9 z4 z5 h8)
        else
          ff_X8_finds_115 x1 x2 x3 x4 x5 (hh_sI h 105 (Int32.toNatClampNeg (((5 : Int32) * x2) + x3)) ((h.1 105 (Int32.toNatClampNeg (((5 : Int32) * x2) + x3))) + (1 : Int32))) (fun q14 =>
            ff_X8_finds_120 x1 x2 x3 x4 x5 q14 (hh_sI h 105 (Int32.toNatClampNeg (((5 : Int32) * x2) + x3)) ((h.1 105 (Int32.toNatClampNeg (((5 : Int32) * x2) + x3))) + (1 : Int32))) (fun z4 z5 h8 => ff_X8_finds_50 x1 x2 x3 n9 z4 z5 h8))
def ff_X8_finds (a1 : Int32) (a2 : Int32) (a3 : Int32) (h : hh_) : Option (Int32 × hh_) :=
  if (ff_X8_isThumb a1 h) = 0 then
    some ((-1 : Int32), h)
  else
    if (ff_X8_isHead a2 h) = 0 then
      some ((-1 : Int32), h)
    else
      if (ff_X8_isPlace a3) = 0 then
        some ((-1 : Int32), h)
      else
        (ff_X8_bump a2 a3 h).bind fun v1 =>
        if v1 = (5 : Int32) then
          some ((-4 : Int32), h)
        else
          ff_X8_finds_50 a1 a2 a3 FU_ (-9 : Int32) ((h.1 98 11) - (1 : Int32)) h
def ff_X8_posts_56 (x1 : Int32) (x2 : Int32) (x4 : Int32) (x5 : Int32) (y0 : Int32) (y1 : Int32) (h : hh_) (K56_26 : Int32 → Int32 → Int32 → Option (Int32 × hh_)) : Option (Int32 × hh_) :=
  (ff_X8_suitsOf x1 x2 x5 h).bind fun v3 =>
  if v3 ≤ 0 then
    K56_26 (y0 ||| y1) (x4 ||| (0 : Int32)) (x5 + (1 : Int32))
  else
    K56_26 (y0 ||| y1) (x4 ||| ((1 : Int32) <<< (x5 &&& 31))) (x5 + (1 : Int32))
def ff_X8_posts_26 (x1 : Int32) (x2 : Int32) (h : hh_) : Nat → Int32 → Int32 → Int32 → Option (Int32 × hh_)
  | 0, _, _, _ => none
  | n9 + 1, x3, x4, x5 =>
    if (h.1 98 12) ≤ x5 then
      some ((ff_X8_ask x4 x3 h).1, (ff_X8_ask x4 x3 h).2)
    else
      (ff_X8_suitsOf x1 x2 x5 h).bind fun v1 =>
      if v1 = (2 : Int32) then
        ff_X8_posts_56 x1 x2 x4 x5 x3 ((1 : Int32) <<< (x5 &&& 31)) h (fun z3 z4 z5 => ff_X8_posts_26 x1 x2 h n9 z3 z4 z5)
      else
        ff_X8_posts_56 x1 x2 x4 x5 x3 (0 : Int32) h (fun z3 z4 z5 => ff_X8_posts_26 x1 x2 h n9 z3 z4 z5)
def ff_X8_posts (a1 : Int32) (a2 : Int32) (h : hh_) : Option (Int32 × hh_) :=
  if (ff_X8_isThumb a1 h) = 0 then
    some ((-1 : Int32), h)
  else
    if (ff_X8_isHead a2 h) = 0 then
      some ((-1 : Int32), h)
    else
      ff_X8_posts_26 a1 a2 h FU_ (0 : Int32) (0 : Int32) (0 : Int32)
def ff_X8_layMay_59 (x1 : Int32) (x2 : Int32) (x3 : Int32) (x5 : Int32) (h : hh_) (K59_75 : Option (hh_)) (K59_71 : Option (hh_)) : Option (hh_) :=
  (ff_X8_suitsOf x5 x2 x3 h).bind fun v2 =>
  if v2 = (2 : Int32) then
    K59_71
  else
    K59_75
def ff_X8_layMay_33 (x1 : Int32) (x2 : Int32) (x3 : Int32) (h : hh_) (K33_84 : Int32 → Option (hh_)) : Nat → Int32 → Int32 → Option (hh_)
  | 0, _, _ => none
  | n9 + 1, x4, x5 =>
    if (h.1 98 11) ≤ x5 then
      K33_84 x4
    else
      if x4 = 0 then
        ff_X8_layMay_33 x1 x2 x3 h K33_84 n9 (0 : Int32) (x5 + (1 : Int32))
      else
        if x1 = (-9 : Int32) then
          ff_X8_layMay_59 x1 x2 x3 x5 h (
            ff_X8_layMay_33 x1 x2 x3 h K33_84 n9 (0 : Int32) (x5 + (1 : Int32))) (
            ff_X8_layMay_33 x1 x2 x3 h K33_84 n9 (1 : Int32) (x5 + (1 : Int32)))
        else
          if x5 = x1 then
            ff_X8_layMay_59 x1 x2 x3 x5 h (
              ff_X8_layMay_33 x1 x2 x3 h K33_84 n9 (0 : Int32) (x5 + (1 : Int32))) (
              ff_X8_layMay_33 x1 x2 x3 h K33_84 n9 (1 : Int32) (x5 + (1 : Int32)))
          else
            ff_X8_layMay_33 x1 x2 x3 h K33_84 n9 (1 : Int32) (x5 + (1 : Int32))
def ff_X8_layMay_19 (x1 : Int32) (x2 : Int32) (K19_111 : hh_ → Option (hh_)) : Nat → Int32 → hh_ → Option (hh_)
  | 0, _, _ => none
  | n9 + 1, x3, h =>
    if (h.1 98 12) ≤ x3 then
      K19_111 h
    else
      ff_X8_layMay_33 x1 x2 x3 h (fun u4 =>
        gd_ (bi_ x2 5) <|
        if u4 = 0 then
          ff_X8_layMay_19 x1 x2 K19_111 n9 (x3 + (1 : Int32)) (hh_sI h 111 (Int32.toNatClampNeg x2) ((h.1 111 (Int32.toNatClampNeg x2)) ||| (0 : Int32)))
        else
          ff_X8_layMay_19 x1 x2 K19_111 n9 (x3 + (1 : Int32)) (hh_sI h 111 (Int32.toNatClampNeg x2) ((h.1 111 (Int32.toNatClampNeg x2)) ||| ((1 : Int32) <<< (x3 &&& 31))))) FU_ (1 : Int32) (0 : Int32)
def ff_X8_layMay_2 (x1 : Int32) : Nat → Int32 → hh_ → Option (hh_)
  | 0, _, _ => none
  | n9 + 1, x2, h =>
    if (h.1 98 10) ≤ x2 then
      some (h)
    else
      gd_ (bi_ x2 5) <|
      ff_X8_layMay_19 x1 x2 (fun k6 =>
        ff_X8_layMay_2 x1 n9 (x2 + (1 : Int32)) k6) FU_ (0 : Int32) (hh_sI h 111 (Int32.toNatClampNeg x2) (0 : Int32))
def ff_X8_layMay (a1 : Int32) (h : hh_) : Option (hh_) :=
  ff_X8_layMay_2 a1 FU_ (0 : Int32) h
def ff_X8_planOn_67 (x1 : Int32) (x2 : Int32) (x3 : Int32) (rc9 : Int32 → Int32 → Int32 → hh_ → Option (hh_)) : Nat → Int32 → hh_ → Option (hh_)
  | 0, _, _ => none
  | n9 + 1, x4, h =>
    if (h.1 98 12) ≤ x4 then
      gd_ (bi_ x1 5) <|
      (rc9 (x1 + (1 : Int32)) x2 x3 (hh_sI h 112 (Int32.toNatClampNeg x1) (-9 : Int32))).bind fun v2 =>
      some (v2)
    else
      gd_ (bi_ x1 5) <|
      if (ff_X8_has ((h.1 111 (Int32.toNatClampNeg x1)) &&& x2) x4) = 0 then
        ff_X8_planOn_67 x1 x2 x3 rc9 n9 (x4 + (1 : Int32)) h
      else
        gd_ (bi_ (((5 : Int32) * x4) + (4 : Int32)) 20) <|
        (rc9 (x1 + (1 : Int32)) (x2 &&& (((1 : Int32) <<< (x4 &&& 31)) ^^^ (-1 : Int32))) (x3 + ((hh_sI h 112 (Int32.toNatClampNeg x1) x4).1 107 (Int32.toNatClampNeg (((5 : Int32) * x4) + (4 : Int32))))) (hh_sI h 112 (Int32.toNatClampNeg x1) x4)).bind fun v6 =>
        ff_X8_planOn_67 x1 x2 x3 rc9 n9 (x4 + (1 : Int32)) v6
def ff_X8_planOn_34 (rc9 : Int32 → Int32 → Int32 → hh_ → Option (hh_)) : Nat → Int32 → hh_ → Option (hh_)
  | 0, _, _ => none
  | n9 + 1, x4, h =>
    if (h.1 98 10) ≤ x4 then
      some (h)
    else
      gd_ (bi_ x4 5) <|
      ff_X8_planOn_34 rc9 n9 (x4 + (1 : Int32)) (hh_sI h 113 (Int32.toNatClampNeg x4) (h.1 112 (Int32.toNatClampNeg x4)))
def ff_X8_planOn : Nat → Int32 → Int32 → Int32 → hh_ → Option (hh_)
  | 0, _, _, _, _ => none
  | n8 + 1, a1, a2, a3, h =>
    if a1 = (h.1 98 10) then
      if a3 ≤ ((hh_sL h 98 28 ((h.2.1 98 28) + (1 : Int64))).1 98 27) then
        some (hh_sL h 98 28 ((h.2.1 98 28) + (1 : Int64)))
      else
        ff_X8_planOn_34 (ff_X8_planOn n8) FU_ (0 : Int32) (hh_sI (hh_sL h 98 28 ((h.2.1 98 28) + (1 : Int64))) 98 27 a3)
    else
      ff_X8_planOn_67 a1 a2 a3 (ff_X8_planOn n8) FU_ (0 : Int32) h
def ff_X8_goPlans (a1 : Int32) (h : hh_) : Option (hh_) :=
  (ff_X8_layMay a1 h).bind fun v1 =>
  (ff_X8_planOn 10 (0 : Int32) (((1 : Int32) <<< (((hh_sL (hh_sI v1 98 27 (-1 : Int32)) 98 28 (0 : Int64)).1 98 12) &&& 31)) - (1 : Int32)) (0 : Int32) (hh_sL (hh_sI v1 98 27 (-1 : Int32)) 98 28 (0 : Int64))).bind fun v3 =>
  some (v3)
def ff_X8_layPlan_12 (x1 : Int32) : Nat → Int32 → hh_ → Option (Int32 × hh_)
  | 0, _, _ => none
  | n9 + 1, x2, h =>
    if (h.1 98 10) ≤ x2 then
      some ((h.1 98 27), h)
    else
      gd_ (bi_ x2 5) <|
      (ff_X8_setRow x1 x2 (h.1 113 (Int32.toNatClampNeg x2)) h).bind fun v4 =>
      ff_X8_layPlan_12 x1 n9 (x2 + (1 : Int32)) v4
def ff_X8_layPlan (a1 : Int32) (h : hh_) : Option (Int32 × hh_) :=
  (ff_X8_row a1 (h.1 98 10) h).bind fun v1 =>
  ff_X8_layPlan_12 a1 FU_ (0 : Int32) v1.2
def ff_X8_plan (a1 : Int32) (a2 : Int32) (h : hh_) : Option (Int32 × hh_) :=
  if (ff_X8_isThumb a1 h) = 0 then
    some ((-1 : Int32), h)
  else
    if (ff_X8_isRow a2) = 0 then
      some ((-1 : Int32), h)
    else
      (ff_X8_goPlans a1 h).bind fun v1 =>
      (ff_X8_layPlan a2 v1).bind fun v3 =>
      some (v3.1, v3.2)
def ff_X8_plans (a1 : Int32) (h : hh_) : Option (Int32 × hh_) :=
  if (ff_X8_isThumb a1 h) = 0 then
    some ((-1 : Int32), h)
  else
    (ff_X8_goPlans a1 h).bind fun v1 =>
    (ff_X8_part (v1.2.1 98 28) (1 : Int64) v1).bind fun v3 =>
    some (v3.1, v3.2)
def ff_X8_safest (a1 : Int32) (h : hh_) : Option (Int32 × hh_) :=
  if (ff_X8_isRow a1) = 0 then
    some ((-1 : Int32), h)
  else
    if (h.1 98 10) = 0 then
      some ((-4 : Int32), h)
    else
      (ff_X8_goPlans (-9 : Int32) h).bind fun v1 =>
      (ff_X8_layPlan a1 v1).bind fun v3 =>
      some (v3.1, v3.2)
def ff_X8_gain_108 (x1 : Int32) (x2 : Int32) (x3 : Int32) (x5 : Int32) (x6 : Int32) (y0 : Int32) (h : hh_) (K108_123 : Int32 → Int32 → Option (Int32 × hh_)) : Option (Int32 × hh_) :=
  K108_123 y0 (ff_X8_greater x5 ((h.1 98 27) - x3))
def ff_X8_gain_38 (x1 : Int32) (x2 : Int32) (x3 : Int32) (K38_129 : Int32 → Int32 → hh_ → Option (Int32 × hh_)) : Nat → Int32 → Int32 → Int32 → hh_ → Option (Int32 × hh_)
  | 0, _, _, _, _ => none
  | n9 + 1, x4, x5, x6, h =>
    if (4 : Int32) ≤ x6 then
      K38_129 x4 x5 h
    else
      (ff_X8_bump x2 x6 h).bind fun v3 =>
      if (5 : Int32) ≤ v3 then
        ff_X8_gain_38 x1 x2 x3 K38_129 n9 x4 x5 (x6 + (1 : Int32)) h
      else
        gd_ (bi_ (((5 : Int32) * x2) + x6) 25) <|
        (ff_X8_goPlans x1 (hh_sI h 105 (Int32.toNatClampNeg (((5 : Int32) * x2) + x6)) ((h.1 105 (Int32.toNatClampNeg (((5 : Int32) * x2) + x6))) + (1 : Int32)))).bind fun v6 =>
        if (((hh_sI v6 105 (Int32.toNatClampNeg (((5 : Int32) * x2) + x6)) ((v6.1 105 (Int32.toNatClampNeg (((5 : Int32) * x2) + x6))) - (1 : Int32))).1 98 27) - x3) ≤ x5 then
          ff_X8_gain_108 x1 x2 x3 x5 x6 x4 (hh_sI v6 105 (Int32.toNatClampNeg (((5 : Int32) * x2) + x6)) ((v6.1 105 (Int32.toNatClampNeg (((5 : Int32) * x2) + x6))) - (1 : Int32))) (fun u8 u9 =>
            ff_X8_gain_38 x1 x2 x3 K38_129 n9 u8 u9 (x6 + (1 : Int32)) (hh_sI v6 105 (Int32.toNatClampNeg (((5 : Int32) * x2) + x6)) ((v6.1 105 (Int32.toNatClampNeg (((5 : Int32) * x2) + x6))) - (1 : Int32))))
        else
          ff_X8_gain_108 x1 x2 x3 x5 x6 x6 (hh_sI v6 105 (Int32.toNatClampNeg (((5 : Int32) * x2) + x6)) ((v6.1 105 (Int32.toNatClampNeg (((5 : Int32) * x2) + x6))) - (1 : Int32))) (fun u10 u11 =>
            ff_X8_gain_38 x1 x2 x3 K38_129 n9 u10 u11 (x6 + (1 : Int32)) (hh_sI v6 105 (Int32.toNatClampNeg (((5 : Int32) * x2) + x6)) ((v6.1 105 (Int32.toNatClampNeg (((5 : Int32) * x2) + x6))) - (1 : Int32))))
def ff_X8_gain (a1 : Int32) (a2 : Int32) (h : hh_) : Option (Int32 × hh_) :=
  if (ff_X8_isThumb a1 h) = 0 then
    some ((-1 : Int32), h)
  else
    if (ff_X8_isHead a2 h) = 0 then
      some ((-1 : Int32), h)
    else
      (ff_X8_goPlans a1 h).bind fun v1 =>
      ff_X8_gain_38 a1 a2 (v1.1 98 27) (fun u12 u13 k14 =>
        if u12 = (-9 : Int32) then
          some ((-9 : Int32), k14)
        else
          some ((ff_X8_ask u12 u13 k14).1, (ff_X8_ask u12 u13 k14).2)) FU_ (-9 : Int32) (0 : Int32) (0 : Int32) v1
def ff_X8_doesLearn_6 (x1 : Int32) (x2 : Int32) (x3 : Int32) (x4 : Int32) (h : hh_) : Nat → Int32 → Int32 → Option (Int32)
  | 0, _, _ => none
  | n9 + 1, x5, x6 =>
    gd_ (bi_ x1 6) <|
    if (h.1 100 (Int32.toNatClampNeg x1)) ≤ x6 then
      gd_ (bz_ x5) <|
      some (x5)
    else
      (ff_X8_rowAt x1 (x6 + (1 : Int32)) h).bind fun v3 =>
      (ff_X8_rowAt x1 x6 h).bind fun v5 =>
      (ff_X8_felt v5 v3 h).bind fun v7 =>
      if x5 = 0 then
        ff_X8_doesLearn_6 x1 x2 x3 x4 h n9 (0 : Int32) (x6 + (3 : Int32))
      else
        (ff_X8_rowAt x1 (x6 + (2 : Int32)) h).bind fun v9 =>
        if (ff_X8_in v9 (ff_X8_greater (0 : Int32) ((ff_X8_middleOf x2 x3 v7 v3) - x4)) ((ff_X8_middleOf x2 x3 v7 v3) + x4)) = 0 then
          ff_X8_doesLearn_6 x1 x2 x3 x4 h n9 (0 : Int32) (x6 + (3 : Int32))
        else
          ff_X8_doesLearn_6 x1 x2 x3 x4 h n9 (1 : Int32) (x6 + (3 : Int32))
def ff_X8_doesLearn (a1 : Int32) (a2 : Int32) (a3 : Int32) (a4 : Int32) (h : hh_) : Option (Int32) :=
  ff_X8_doesLearn_6 a1 a2 a3 a4 h FU_ (1 : Int32) (0 : Int32)
def ff_X8_learn_50 (x1 : Int32) (x2 : Int32) (h : hh_) (K50_120 : Option (Int32 × hh_)) : Nat → Int32 → Option (Int32 × hh_)
  | 0, _ => none
  | n9 + 1, x4 =>
    gd_ (bi_ x1 6) <|
    if (h.1 100 (Int32.toNatClampNeg x1)) ≤ x4 then
      K50_120
    else
      (ff_X8_rowAt x1 x4 h).bind fun v5 =>
      if (ff_X8_isHead v5 h) = 0 then
        (ff_X8_meet (3 : Int32) h).bind fun v7 =>
        some (v7.1, v7.2)
      else
        (ff_X8_rowAt x1 (x4 + (1 : Int32)) h).bind fun v9 =>
        if (ff_X8_isPlace v9) = 0 then
          (ff_X8_meet (3 : Int32) h).bind fun v11 =>
          some (v11.1, v11.2)
        else
          (ff_X8_rowAt x1 (x4 + (2 : Int32)) h).bind fun v13 =>
          if (ff_X8_in v13 (0 : Int32) (9 : Int32)) = 0 then
            (ff_X8_meet (3 : Int32) h).bind fun v15 =>
            some (v15.1, v15.2)
          else
            ff_X8_learn_50 x1 x2 h K50_120 n9 (x4 + (3 : Int32))
def ff_X8_learn_169 (x1 : Int32) (x2 : Int32) (x5 : Int32) (x6 : Int32) (x7 : Int32) (y0 : Int32) (y1 : Int32) (h : hh_) (K169_129 : Int32 → Int32 → Int32 → Option (Int32 × hh_)) : Option (Int32 × hh_) :=
  if x7 = 0 then
    K169_129 (y0 ||| y1) (x5 ||| (0 : Int32)) (x6 + (1 : Int32))
  else
    K169_129 (y0 ||| y1) (x5 ||| ((1 : Int32) <<< ((x6 - x6 / (4 : Int32) * (4 : Int32)) &&& 31))) (x6 + (1 : Int32))
def ff_X8_learn_129 (x1 : Int32) (x2 : Int32) (h : hh_) : Nat → Int32 → Int32 → Int32 → Option (Int32 × hh_)
  | 0, _, _, _ => none
  | n9 + 1, x4, x5, x6 =>
    if (24 : Int32) ≤ x6 then
      some ((ff_X8_ask x5 x4 h).1, (ff_X8_ask x5 x4 h).2)
    else
      (ff_X8_doesLearn x1 (x6 / (4 : Int32)) (x6 - x6 / (4 : Int32) * (4 : Int32)) x2 h).bind fun v17 =>
      if v17 = 0 then
        ff_X8_learn_169 x1 x2 x5 x6 v17 x4 (0 : Int32) h (fun z4 z5 z6 => ff_X8_learn_129 x1 x2 h n9 z4 z5 z6)
      else
        ff_X8_learn_169 x1 x2 x5 x6 v17 x4 ((1 : Int32) <<< ((x6 / (4 : Int32)) &&& 31)) h (fun z4 z5 z6 => ff_X8_learn_129 x1 x2 h n9 z4 z5 z6)
def ff_X8_learn (a1 : Int32) (a2 : Int32) (h : hh_) : Option (Int32 × hh_) :=
  if (ff_X8_isRow a1) = 0 then
    some ((-1 : Int32), h)
  else
    if (ff_X8_in a2 (0 : Int32) (2 : Int32)) = 0 then
      some ((-1 : Int32), h)
    else
      (ff_X8_askedRow a1 h).bind fun v1 =>
      if 0 ≤ v1.1 then
        gd_ (bi_ a1 6) <|
        if ((v1.2.1 100 (Int32.toNatClampNeg a1)) - (v1.2.1 100 (Int32.toNatClampNeg a1)) / (3 : Int32) * (3 : Int32)) = 0 then
          ff_X8_learn_50 a1 a2 v1.2 (
            ff_X8_learn_129 a1 a2 v1.2 FU_ (0 : Int32) (0 : Int32) (0 : Int32)) FU_ (0 : Int32)
        else
          (ff_X8_meet (5 : Int32) v1.2).bind fun v19 =>
          some (v19.1, v19.2)
      else
        some (v1.1, v1.2)
def ff_X8_tells_33 (x1 : Int32) (h : hh_) (K33_67 : Option (Int32 × hh_)) : Nat → Int32 → Option (Int32 × hh_)
  | 0, _ => none
  | n9 + 1, x3 =>
    if (h.1 98 10) ≤ x3 then
      K33_67
    else
      (ff_X8_rowAt x1 x3 h).bind fun v4 =>
      if (ff_X8_in v4 (0 : Int32) (1 : Int32)) = 0 then
        (ff_X8_meet (3 : Int32) h).bind fun v6 =>
        some (v6.1, v6.2)
      else
        ff_X8_tells_33 x1 h K33_67 n9 (x3 + (1 : Int32))
def ff_X8_tells_122 (x1 : Int32) (x3 : Int32) (x4 : Int32) (x5 : Int32) (x6 : Int32) (h : hh_) (K122_123 : Int32 → Option (Int32 × hh_)) : Option (Int32 × hh_) :=
  K122_123 (0 : Int32)
def ff_X8_tells_151 (x1 : Int32) (x3 : Int32) (x5 : Int32) (x6 : Int32) (x7 : Int32) (y0 : Int32) (h : hh_) (K151_152 : Int32 → Int32 → Option (Int32 × hh_)) : Option (Int32 × hh_) :=
  K151_152 y0 (0 : Int32)
def ff_X8_tells_158 (x1 : Int32) (x4 : Int32) (x5 : Int32) (x6 : Int32) (x7 : Int32) (h : hh_) (K158_207 : Int32 → Option (Int32 × hh_)) : Nat → Int32 → Int32 → Option (Int32 × hh_)
  | 0, _, _ => none
  | n9 + 1, x3, x8 =>
    if (4 : Int32) ≤ x8 then
      K158_207 x3
    else
      if x7 = 0 then
        ff_X8_tells_158 x1 x4 x5 x6 x7 h K158_207 n9 (x3 &&& (-1 : Int32)) (x8 + (1 : Int32))
      else
        (ff_X8_bump x5 x8 h).bind fun v13 =>
        (ff_X8_bump x6 x8 h).bind fun v15 =>
        if v15 < v13 then
          ff_X8_tells_158 x1 x4 x5 x6 x7 h K158_207 n9 (x3 &&& (-1 : Int32)) (x8 + (1 : Int32))
        else
          ff_X8_tells_158 x1 x4 x5 x6 x7 h K158_207 n9 (x3 &&& (((1 : Int32) <<< (x8 &&& 31)) ^^^ (-1 : Int32))) (x8 + (1 : Int32))
def ff_X8_tells_152 (x1 : Int32) (x3 : Int32) (x5 : Int32) (x6 : Int32) (x7 : Int32) (y0 : Int32) (y1 : Int32) (h : hh_) (K152_88 : Int32 → Int32 → Int32 → Option (Int32 × hh_)) : Option (Int32 × hh_) :=
  ff_X8_tells_158 x1 (y0 + y1) x5 x6 x7 h (fun u17 =>
    K152_88 u17 (y0 + y1) (x6 + (1 : Int32))) FU_ x3 (0 : Int32)
def ff_X8_tells_123 (x1 : Int32) (x3 : Int32) (x4 : Int32) (x5 : Int32) (x6 : Int32) (y0 : Int32) (h : hh_) (K123_88 : Int32 → Int32 → Int32 → Option (Int32 × hh_)) : Option (Int32 × hh_) :=
  if y0 = 0 then
    ff_X8_tells_151 x1 x3 x5 x6 y0 x4 h (fun q11 q12 =>
      ff_X8_tells_152 x1 x3 x5 x6 y0 q11 q12 h K123_88)
  else
    (ff_X8_bumps x5 h).bind fun v18 =>
    (ff_X8_bumps x6 h).bind fun v20 =>
    if v18 ≤ v20 then
      ff_X8_tells_151 x1 x3 x5 x6 y0 x4 h (fun q22 q23 =>
        ff_X8_tells_152 x1 x3 x5 x6 y0 q22 q23 h K123_88)
    else
      ff_X8_tells_152 x1 x3 x5 x6 y0 x4 (1 : Int32) h K123_88
def ff_X8_tells_88 (x1 : Int32) (x5 : Int32) (h : hh_) (K88_213 : Int32 → Int32 → Option (Int32 × hh_)) : Nat → Int32 → Int32 → Int32 → Option (Int32 × hh_)
  | 0, _, _, _ => none
  | n9 + 1, x3, x4, x6 =>
    if (h.1 98 10) ≤ x6 then
      K88_213 x3 x4
    else
      (ff_X8_rowAt x1 x5 h).bind fun v8 =>
      if v8 = (1 : Int32) then
        (ff_X8_rowAt x1 x6 h).bind fun v24 =>
        if v24 = 0 then
          ff_X8_tells_123 x1 x3 x4 x5 x6 (1 : Int32) h (fun z3 z4 z6 => ff_X8_tells_88 x1 x5 h K88_213 n9 z3 z4 z6)
        else
          ff_X8_tells_122 x1 x3 x4 x5 x6 h (fun q26 =>
            ff_X8_tells_123 x1 x3 x4 x5 x6 q26 h (fun z3 z4 z6 => ff_X8_tells_88 x1 x5 h K88_213 n9 z3 z4 z6))
      else
        ff_X8_tells_122 x1 x3 x4 x5 x6 h (fun q10 =>
          ff_X8_tells_123 x1 x3 x4 x5 x6 q10 h (fun z3 z4 z6 => ff_X8_tells_88 x1 x5 h K88_213 n9 z3 z4 z6))
def ff_X8_tells_76 (x1 : Int32) (h : hh_) : Nat → Int32 → Int32 → Int32 → Option (Int32 × hh_)
  | 0, _, _, _ => none
  | n9 + 1, x3, x4, x5 =>
    if (h.1 98 10) ≤ x5 then
      some ((ff_X8_ask x4 x3 h).1, (ff_X8_ask x4 x3 h).2)
    else
      ff_X8_tells_88 x1 x5 h (fun u27 u28 =>
        ff_X8_tells_76 x1 h n9 u27 u28 (x5 + (1 : Int32))) FU_ x3 x4 (0 : Int32)
def ff_X8_tells (a1 : Int32) (h : hh_) : Option (Int32 × hh_) :=
  (ff_X8_askedRow a1 h).bind fun v1 =>
  if 0 ≤ v1.1 then
    gd_ (bi_ a1 6) <|
    if (v1.2.1 100 (Int32.toNatClampNeg a1)) = (v1.2.1 98 10) then
      ff_X8_tells_33 a1 v1.2 (
        ff_X8_tells_76 a1 v1.2 FU_ (15 : Int32) (0 : Int32) (0 : Int32)) FU_ (0 : Int32)
    else
      (ff_X8_meet (5 : Int32) v1.2).bind fun v29 =>
      some (v29.1, v29.2)
  else
    some (v1.1, v1.2)
def ff_X8_isAlone_20 (x1 : Int32) (x2 : Int32) (x3 : Int32) (x4 : Int32) (h : hh_) (K20_75 : Int32 → Option (Int32)) : Nat → Int32 → Int32 → Option (Int32)
  | 0, _, _ => none
  | n9 + 1, x5, x6 =>
    if (4 : Int32) ≤ x6 then
      K20_75 x5
    else
      if x5 = 0 then
        ff_X8_isAlone_20 x1 x2 x3 x4 h K20_75 n9 (0 : Int32) (x6 + (1 : Int32))
      else
        gd_ (bi_ x6 4) <|
        (ff_X8_least x1 x4 x6 h).bind fun v3 =>
        (ff_X8_most x1 x4 x6 h).bind fun v5 =>
        if (ff_X8_in (h.1 114 (Int32.toNatClampNeg x6)) v3 v5) = 0 then
          ff_X8_isAlone_20 x1 x2 x3 x4 h K20_75 n9 (0 : Int32) (x6 + (1 : Int32))
        else
          ff_X8_isAlone_20 x1 x2 x3 x4 h K20_75 n9 (1 : Int32) (x6 + (1 : Int32))
def ff_X8_isAlone_5 (x1 : Int32) (x2 : Int32) (h : hh_) : Nat → Int32 → Int32 → Option (Int32)
  | 0, _, _ => none
  | n9 + 1, x3, x4 =>
    if (h.1 98 10) ≤ x4 then
      gd_ (bz_ x3) <|
      some (x3)
    else
      ff_X8_isAlone_20 x1 x2 x3 x4 h (fun u7 =>
        if x3 = 0 then
          ff_X8_isAlone_5 x1 x2 h n9 (0 : Int32) (x4 + (1 : Int32))
        else
          if x4 = x2 then
            if u7 = (1 : Int32) then
              ff_X8_isAlone_5 x1 x2 h n9 (1 : Int32) (x4 + (1 : Int32))
            else
              ff_X8_isAlone_5 x1 x2 h n9 (0 : Int32) (x4 + (1 : Int32))
          else
            if u7 = (0 : Int32) then
              ff_X8_isAlone_5 x1 x2 h n9 (1 : Int32) (x4 + (1 : Int32))
            else
              ff_X8_isAlone_5 x1 x2 h n9 (0 : Int32) (x4 + (1 : Int32))) FU_ (1 : Int32) (0 : Int32)
def ff_X8_isAlone (a1 : Int32) (a2 : Int32) (h : hh_) : Option (Int32) :=
  ff_X8_isAlone_5 a1 a2 h FU_ (1 : Int32) (0 : Int32)
def ff_X8_lots_72 (x1 : Int32) (x2 : Int32) (x6 : Int32) (x7 : Int32) (x8 : Int32) (K72_127 : Int64 → hh_ → Option (Int32 × hh_)) : Nat → Int64 → Int32 → hh_ → Option (Int32 × hh_)
  | 0, _, _, _ => none
  | n9 + 1, x4, x9, h =>
    if (4 : Int32) ≤ x9 then
      K72_127 x4 h
    else
      (ff_X8_least x1 x8 x9 h).bind fun v2 =>
      (ff_X8_spread x1 x8 x9 h).bind fun v4 =>
      gd_ (bm_ (Int32.toInt64 v4)) <|
      gd_ (bi_ x9 4) <|
      ff_X8_lots_72 x1 x2 x6 x7 x8 K72_127 n9 (((48271 : Int64) * x4) - ((48271 : Int64) * x4) / (2147483647 : Int64) * (2147483647 : Int64)) (x9 + (1 : Int32)) (hh_sI h 114 (Int32.toNatClampNeg x9) (v2 + (Int64.toInt32 ((((48271 : Int64) * x4) - ((48271 : Int64) * x4) / (2147483647 : Int64) * (2147483647 : Int64)) - (((48271 : Int64) * x4) - ((48271 : Int64) * x4) / (2147483647 : Int64) * (2147483647 : Int64)) / (Int32.toInt64 v4) * (Int32.toInt64 v4)))))
def ff_X8_lots_40 (x1 : Int32) (x2 : Int32) : Nat → Int64 → Int32 → Int32 → hh_ → Option (Int32 × hh_)
  | 0, _, _, _, _ => none
  | n9 + 1, x4, x6, x7, h =>
    if x2 ≤ x7 then
      some (x6, h)
    else
      gd_ (bm_ (Int32.toInt64 (h.1 98 10))) <|
      ff_X8_lots_72 x1 x2 x6 x7 (Int64.toInt32 ((((48271 : Int64) * x4) - ((48271 : Int64) * x4) / (2147483647 : Int64) * (2147483647 : Int64)) - (((48271 : Int64) * x4) - ((48271 : Int64) * x4) / (2147483647 : Int64) * (2147483647 : Int64)) / (Int32.toInt64 (h.1 98 10)) * (Int32.toInt64 (h.1 98 10)))) (fun u8 k9 =>
        (ff_X8_isAlone x1 (Int64.toInt32 ((((48271 : Int64) * x4) - ((48271 : Int64) * x4) / (2147483647 : Int64) * (2147483647 : Int64)) - (((48271 : Int64) * x4) - ((48271 : Int64) * x4) / (2147483647 : Int64) * (2147483647 : Int64)) / (Int32.toInt64 (h.1 98 10)) * (Int32.toInt64 (h.1 98 10)))) k9).bind fun v10 =>
        if v10 = 0 then
          ff_X8_lots_40 x1 x2 n9 u8 (x6 + (0 : Int32)) (x7 + (1 : Int32)) k9
        else
          ff_X8_lots_40 x1 x2 n9 u8 (x6 + (1 : Int32)) (x7 + (1 : Int32)) k9) FU_ (((48271 : Int64) * x4) - ((48271 : Int64) * x4) / (2147483647 : Int64) * (2147483647 : Int64)) (0 : Int32) h
def ff_X8_lots (a1 : Int32) (a2 : Int32) (a3 : Int32) (h : hh_) : Option (Int32 × hh_) :=
  if (ff_X8_isThumb a1 h) = 0 then
    some ((-1 : Int32), h)
  else
    if (ff_X8_in a2 (1 : Int32) (5 : Int32)) = 0 then
      some ((-1 : Int32), h)
    else
      if (ff_X8_in a3 (1 : Int32) (2147483646 : Int32)) = 0 then
        some ((-1 : Int32), h)
      else
        ff_X8_lots_40 a1 a2 FU_ (Int32.toInt64 a3) (0 : Int32) (0 : Int32) h
def ff_X8_asked (h : hh_) : Int32 :=
  (h.1 98 2)
def ff_X8_upper (h : hh_) : Int64 :=
  (h.2.1 98 3)
def ff_X8_lower (h : hh_) : Int64 :=
  (h.2.1 98 4)
def ff_X8_tellsOf_99 (x1 : Int32) (x3 : Int32) (x4 : Int32) (y0 : Int32) (h : hh_) (K99_127 : Int32 → Option (Int32)) (K99_132 : Int32 → Int32 → Option (Int32)) : Option (Int32) :=
  if x1 = (8 : Int32) then
    if (3 : Int32) ≤ x4 then
      K99_132 y0 (0 : Int32)
    else
      gd_ (bi_ ((1030 : Int32) * x4) 3090) <|
      if (h.1 110 (Int32.toNatClampNeg ((1030 : Int32) * x4))) = (-9 : Int32) then
        K99_132 y0 (0 : Int32)
      else
        K99_127 y0
  else
    K99_132 y0 (0 : Int32)
def ff_X8_tellsOf_77 (x1 : Int32) (x3 : Int32) (x4 : Int32) (y0 : Int32) (h : hh_) (K77_127 : Int32 → Option (Int32)) (K77_132 : Int32 → Int32 → Option (Int32)) : Option (Int32) :=
  if x1 = (7 : Int32) then
    if (4 : Int32) ≤ x4 then
      ff_X8_tellsOf_99 x1 x3 x4 y0 h K77_127 K77_132
    else
      gd_ (bi_ x4 4) <|
      if 0 ≤ (h.1 103 (Int32.toNatClampNeg x4)) then
        K77_127 y0
      else
        ff_X8_tellsOf_99 x1 x3 x4 y0 h K77_127 K77_132
  else
    ff_X8_tellsOf_99 x1 x3 x4 y0 h K77_127 K77_132
def ff_X8_tellsOf_61 (x1 : Int32) (x3 : Int32) (x4 : Int32) (y0 : Int32) (h : hh_) (K61_127 : Int32 → Option (Int32)) (K61_132 : Int32 → Int32 → Option (Int32)) : Option (Int32) :=
  if x1 = (6 : Int32) then
    gd_ (bi_ x4 6) <|
    if 0 ≤ (h.1 100 (Int32.toNatClampNeg x4)) then
      K61_127 y0
    else
      ff_X8_tellsOf_77 x1 x3 x4 y0 h K61_127 K61_132
  else
    ff_X8_tellsOf_77 x1 x3 x4 y0 h K61_127 K61_132
def ff_X8_tellsOf_34 (x1 : Int32) (x2 : Int32) (x4 : Int32) (y0 : Int32) (y1 : Int32) (h : hh_) (K34_7 : Int32 → Int32 → Int32 → Option (Int32)) : Option (Int32) :=
  if x1 = (5 : Int32) then
    if (h.1 98 11) ≤ x4 then
      ff_X8_tellsOf_61 x1 (y0 + y1) x4 x2 h (fun q7 =>
        K34_7 (q7 + (1 : Int32)) (y0 + y1) (x4 + (1 : Int32))) (fun q8 q9 =>
        K34_7 (q8 + q9) (y0 + y1) (x4 + (1 : Int32)))
    else
      (ff_X8_isA x4 (3 : Int32) h).bind fun v10 =>
      if v10 = 0 then
        ff_X8_tellsOf_61 x1 (y0 + y1) x4 x2 h (fun q12 =>
          K34_7 (q12 + (1 : Int32)) (y0 + y1) (x4 + (1 : Int32))) (fun q13 q14 =>
          K34_7 (q13 + q14) (y0 + y1) (x4 + (1 : Int32)))
      else
        K34_7 (x2 + (1 : Int32)) (y0 + y1) (x4 + (1 : Int32))
  else
    ff_X8_tellsOf_61 x1 (y0 + y1) x4 x2 h (fun q4 =>
      K34_7 (q4 + (1 : Int32)) (y0 + y1) (x4 + (1 : Int32))) (fun q5 q6 =>
      K34_7 (q5 + q6) (y0 + y1) (x4 + (1 : Int32)))
def ff_X8_tellsOf_7 (x1 : Int32) (h : hh_) (K7_140 : Int32 → Int32 → Option (Int32)) : Nat → Int32 → Int32 → Int32 → Option (Int32)
  | 0, _, _, _ => none
  | n9 + 1, x2, x3, x4 =>
    if (6 : Int32) ≤ x4 then
      K7_140 x2 x3
    else
      if (h.1 98 10) ≤ x4 then
        ff_X8_tellsOf_34 x1 x2 x4 x3 (0 : Int32) h (fun z2 z3 z4 => ff_X8_tellsOf_7 x1 h K7_140 n9 z2 z3 z4)
      else
        (ff_X8_bumps x4 h).bind fun v15 =>
        ff_X8_tellsOf_34 x1 x2 x4 x3 v15 h (fun z2 z3 z4 => ff_X8_tellsOf_7 x1 h K7_140 n9 z2 z3 z4)
def ff_X8_tellsOf (a1 : Int32) (h : hh_) : Option (Int32) :=
  ff_X8_tellsOf_7 a1 h (fun u17 u18 =>
    if a1 = (0 : Int32) then
      some (h.1 98 10)
    else
      if a1 = (1 : Int32) then
        some (h.1 98 11)
      else
        if a1 = (2 : Int32) then
          some (h.1 98 12)
        else
          if a1 = (3 : Int32) then
            some (h.1 98 21)
          else
            if a1 = (4 : Int32) then
              some (u18)
            else
              some (u17)) FU_ (0 : Int32) (0 : Int32) (0 : Int32)
def ff_X8_count (a1 : Int32) (h : hh_) : Option (Int32) :=
  if (ff_X8_in a1 (0 : Int32) (8 : Int32)) = 0 then
    some (-1 : Int32)
  else
    (ff_X8_tellsOf a1 h).bind fun v1 =>
    some (v1)
def ff_X8_finding (h : hh_) : Int32 :=
  (h.1 98 0)
def ff_X8_findings (a1 : Int32) (h : hh_) : Option (Int32) :=
  if (ff_X8_in a1 (1 : Int32) (5 : Int32)) = 0 then
    some (-1 : Int32)
  else
    gd_ (bi_ a1 6) <|
    some (h.1 99 (Int32.toNatClampNeg a1))
def ff_X8_mix (a1 : Int32) (h : hh_) : hh_ :=
  (hh_sL h 98 30 (((31 : Int64) * (h.2.1 98 30)) + (Int32.toInt64 a1)))
def ff_X8_mixOffice_12 (x1 : Int32) (K12_33 : hh_ → Option (hh_)) : Nat → Int32 → hh_ → Option (hh_)
  | 0, _, _ => none
  | n9 + 1, x2, h =>
    if (5 : Int32) < x2 then
      K12_33 h
    else
      (ff_X8_headOf x1 x2 h).bind fun v1 =>
      ff_X8_mixOffice_12 x1 K12_33 n9 (x2 + (1 : Int32)) (ff_X8_mix v1 h)
def ff_X8_mixOffice_2 (K2_39 : hh_ → Option (hh_)) : Nat → Int32 → hh_ → Option (hh_)
  | 0, _, _ => none
  | n9 + 1, x1, h =>
    if (h.1 98 10) ≤ x1 then
      K2_39 h
    else
      ff_X8_mixOffice_12 x1 (fun k3 =>
        ff_X8_mixOffice_2 K2_39 n9 (x1 + (1 : Int32)) k3) FU_ (0 : Int32) h
def ff_X8_mixOffice_41 (K41_67 : hh_ → Option (hh_)) : Nat → Int32 → hh_ → Option (hh_)
  | 0, _, _ => none
  | n9 + 1, x1, h =>
    if ((3 : Int32) * (h.1 98 11)) ≤ x1 then
      K41_67 h
    else
      gd_ (bi_ x1 12) <|
      ff_X8_mixOffice_41 K41_67 n9 (x1 + (1 : Int32)) (ff_X8_mix (h.1 106 (Int32.toNatClampNeg x1)) h)
def ff_X8_mixOffice_69 (K69_95 : hh_ → Option (hh_)) : Nat → Int32 → hh_ → Option (hh_)
  | 0, _, _ => none
  | n9 + 1, x1, h =>
    if ((5 : Int32) * (h.1 98 12)) ≤ x1 then
      K69_95 h
    else
      gd_ (bi_ x1 20) <|
      ff_X8_mixOffice_69 K69_95 n9 (x1 + (1 : Int32)) (ff_X8_mix (h.1 107 (Int32.toNatClampNeg x1)) h)
def ff_X8_mixOffice_97 : Nat → Int32 → hh_ → Option (hh_)
  | 0, _, _ => none
  | n9 + 1, x1, h =>
    if (3 : Int32) ≤ x1 then
      some (h)
    else
      gd_ (bi_ ((1030 : Int32) * x1) 3090) <|
      if (h.1 110 (Int32.toNatClampNeg ((1030 : Int32) * x1))) = (-9 : Int32) then
        ff_X8_mixOffice_97 n9 (x1 + (1 : Int32)) (ff_X8_mix (-1 : Int32) h)
      else
        ff_X8_mixOffice_97 n9 (x1 + (1 : Int32)) (ff_X8_mix (h.1 110 (Int32.toNatClampNeg ((1030 : Int32) * x1))) h)
def ff_X8_mixOffice (h : hh_) : Option (hh_) :=
  ff_X8_mixOffice_2 (fun k4 =>
    ff_X8_mixOffice_41 (fun k6 =>
      ff_X8_mixOffice_69 (fun k8 =>
        ff_X8_mixOffice_97 FU_ (0 : Int32) k8) FU_ (0 : Int32) k6) FU_ (0 : Int32) k4) FU_ (0 : Int32) h
def ff_X8_digest_9 (K9_30 : hh_ → Option (Int64 × hh_)) : Nat → Int32 → hh_ → Option (Int64 × hh_)
  | 0, _, _ => none
  | n9 + 1, x1, h =>
    if (8 : Int32) < x1 then
      K9_30 h
    else
      (ff_X8_tellsOf x1 h).bind fun v1 =>
      ff_X8_digest_9 K9_30 n9 (x1 + (1 : Int32)) (ff_X8_mix v1 h)
def ff_X8_digest_67 (x1 : Int32) (K67_93 : hh_ → Option (Int64 × hh_)) : Nat → Int32 → hh_ → Option (Int64 × hh_)
  | 0, _, _ => none
  | n9 + 1, x2, h =>
    gd_ (bi_ x1 6) <|
    if (h.1 100 (Int32.toNatClampNeg x1)) ≤ x2 then
      K67_93 h
    else
      (ff_X8_rowAt x1 x2 h).bind fun v8 =>
      ff_X8_digest_67 x1 K67_93 n9 (x2 + (1 : Int32)) (ff_X8_mix v8 h)
def ff_X8_digest_62 (x1 : Int32) (y1 : Int32) (h : hh_) (K62_36 : Int32 → hh_ → Option (Int64 × hh_)) : Option (Int64 × hh_) :=
  ff_X8_digest_67 x1 (fun k10 =>
    K62_36 (x1 + (1 : Int32)) k10) FU_ (0 : Int32) (ff_X8_mix y1 h)
def ff_X8_digest_36 (K36_99 : hh_ → Option (Int64 × hh_)) : Nat → Int32 → hh_ → Option (Int64 × hh_)
  | 0, _, _ => none
  | n9 + 1, x1, h =>
    if (6 : Int32) ≤ x1 then
      K36_99 h
    else
      gd_ (bi_ x1 6) <|
      if 0 ≤ (h.1 100 (Int32.toNatClampNeg x1)) then
        ff_X8_digest_62 x1 (h.1 100 (Int32.toNatClampNeg x1)) h (fun z1 h8 => ff_X8_digest_36 K36_99 n9 z1 h8)
      else
        ff_X8_digest_62 x1 (-1 : Int32) h (fun z1 h8 => ff_X8_digest_36 K36_99 n9 z1 h8)
def ff_X8_digest_131 (x1 : Int32) (K131_162 : hh_ → Option (Int64 × hh_)) : Nat → Int32 → hh_ → Option (Int64 × hh_)
  | 0, _, _ => none
  | n9 + 1, x2, h =>
    gd_ (bi_ x1 4) <|
    if (h.1 103 (Int32.toNatClampNeg x1)) ≤ x2 then
      K131_162 h
    else
      gd_ (bi_ (((80 : Int32) * x1) + x2) 320) <|
      ff_X8_digest_131 x1 K131_162 n9 (x2 + (1 : Int32)) (ff_X8_mix (h.1 104 (Int32.toNatClampNeg (((80 : Int32) * x1) + x2))) h)
def ff_X8_digest_126 (x1 : Int32) (y1 : Int32) (h : hh_) (K126_101 : Int32 → hh_ → Option (Int64 × hh_)) : Option (Int64 × hh_) :=
  ff_X8_digest_131 x1 (fun k15 =>
    K126_101 (x1 + (1 : Int32)) k15) FU_ (0 : Int32) (ff_X8_mix y1 h)
def ff_X8_digest_101 : Nat → Int32 → hh_ → Option (Int64 × hh_)
  | 0, _, _ => none
  | n9 + 1, x1, h =>
    if (4 : Int32) ≤ x1 then
      some ((h.2.1 98 30), h)
    else
      gd_ (bi_ x1 4) <|
      if 0 ≤ (h.1 103 (Int32.toNatClampNeg x1)) then
        ff_X8_digest_126 x1 (h.1 103 (Int32.toNatClampNeg x1)) h (fun z1 h8 => ff_X8_digest_101 n9 z1 h8)
      else
        ff_X8_digest_126 x1 (-1 : Int32) h (fun z1 h8 => ff_X8_digest_101 n9 z1 h8)
def ff_X8_digest (h : hh_) : Option (Int64 × hh_) :=
  ff_X8_digest_9 (fun k3 =>
    (ff_X8_mixOffice k3).bind fun v4 =>
    ff_X8_digest_36 (fun k11 =>
      ff_X8_digest_101 FU_ (0 : Int32) k11) FU_ (0 : Int32) v4) FU_ (0 : Int32) (hh_sL h 98 30 (17 : Int64))
