def f_X0_turnLoop_59 (wk : Mem → Int32 → Int32 → Option Mem)  : Nat → Int32 → Int32 → Int32 → Int64 → Int64 → Int32 → Mem → Option Mem
  | 0, _, _, _, _, _, _, _ => none
  | n59 + 1, x1, x2, x3, x4, x6, x8, M => if 4000 < x8 then ck x3 4 (some (sL M 37 x3.toNatClampNeg 0))
      else if x6 < (x4 + x8.toInt64) then ck x3 4 (some (sL M 37 x3.toNatClampNeg 0))
        else if (zb (M.1 112 0)) = true then ck x3 4 (some (sL M 37 x3.toNatClampNeg 0))
          else if ((sI M 111 0 ((M.1 111 0) + 1)).1 111 0) ≤ 4000 then ck x3 4 (ck x1 41 (bm (wk (sL (sI M 111 0 ((M.1 111 0) + 1)) 37 x3.toNatClampNeg (x4 + x8.toInt64)) ((sL (sI M 111 0 ((M.1 111 0) + 1)) 37 x3.toNatClampNeg (x4 + x8.toInt64)).1 6 x1.toNatClampNeg) (x2 + 1)) (fun M20 => f_X0_turnLoop_59 wk n59 x1 x2 x3 x4 x6 (x8 + 1) M20)))
            else f_X0_turnLoop_59 wk n59 x1 x2 x3 x4 x6 (x8 + 1) (sI (sI M 111 0 ((M.1 111 0) + 1)) 112 0 (bI true))
def f_X0_turnLoop (wk : Mem → Int32 → Int32 → Option Mem) (M : Mem) (x1 : Int32) (x2 : Int32) : Option Mem :=
  ck x1 40 (ck x1 40 (bq (f_X8_reckon_h M (M.1 12 x1.toNatClampNeg) 0) (fun r3 => ck x1 40 (bq (f_X8_reckon_h M (M.1 13 x1.toNatClampNeg) 0) (fun r7 => f_X0_turnLoop_59 wk 100000 x1 x2 (M.1 11 x1.toNatClampNeg) r3 r7 0 M)))))
def f_X0_walkB_101 (wk : Mem → Int32 → Int32 → Option Mem) (k12 : Int32 → Int32 → Int32 → Mem → Option Mem) (x2 : Int32) (x3 : Int32) (x4 : Int32) (M : Mem) : Option Mem :=
  ck x3 40 (k12 x2 (M.1 8 x3.toNatClampNeg) (x4 + 1) M)
def f_X0_walkB_12 (wk : Mem → Int32 → Int32 → Option Mem)  : Nat → Int32 → Int32 → Int32 → Mem → Option Mem
  | 0, _, _, _, _ => none
  | n12 + 1, x2, x3, x4, M => if 40 ≤ x4 then some M
      else if x3 < 0 then some M
        else if (zb (M.1 112 0)) = true then some M
          else bq (f_X2_isAct M x3) (fun r5 => if r5 = true then ck x3 40 (bm (f_X0_addVisit M (M.1 17 x3.toNatClampNeg)) (fun M26 => f_X0_walkB_101 wk (f_X0_walkB_12 wk n12) x2 x3 x4 M26))
            else bq (f_X2_isLoop M x3) (fun r9 => if r9 = true then bm (f_X0_turnLoop wk M x3 x2) (fun M22 => f_X0_walkB_101 wk (f_X0_walkB_12 wk n12) x2 x3 x4 M22)
              else bq (f_X0_passes M x3) (fun r13 => if r13 = true then ck x3 41 (bm (wk M (M.1 6 x3.toNatClampNeg) (x2 + 1)) (fun M19 => f_X0_walkB_101 wk (f_X0_walkB_12 wk n12) x2 x3 x4 M19))
                else f_X0_walkB_101 wk (f_X0_walkB_12 wk n12) x2 x3 x4 M)))
def f_X0_walkB (wk : Mem → Int32 → Int32 → Option Mem) (M : Mem) (x1 : Int32) (x2 : Int32) : Option Mem :=
  if x2 ≤ 40 then f_X0_walkB_12 wk 100000 x2 x1 0 M
  else some M
def f_X0_walk : Nat → Mem → Int32 → Int32 → Option Mem
  | 0, _, _, _ => none
  | n + 1, M, x1, x2 => f_X0_walkB (f_X0_walk n) M x1 x2
def f_X0_refresh (M : Mem) : Option Mem :=
  if (zb (M.1 113 0)) = true then some M
  else ck 40 41 (bm (f_X0_walk 45 (fL (sI (sI (sI M 110 0 0) 111 0 0) 112 0 (bI false)) 37 0 4 0) ((fL (sI (sI (sI M 110 0 0) 111 0 0) 112 0 (bI false)) 37 0 4 0).1 6 (40 : Int32).toNatClampNeg) 0) (fun M4 => some (sI M4 113 0 (bI true))))
def f_X3_leanFits_81 (k14 : Int32 → Int32 → Int32 → Int32 → Int32 → Mem → Option Bool) : Nat → Int32 → Int32 → Int32 → Int32 → Int32 → Int32 → Int32 → Int32 → Mem → Option Bool
  | 0, _, _, _, _, _, _, _, _, _ => none
  | n81 + 1, x1, x2, x3, x4, x5, x6, x7, x8, M => if 5 ≤ x8 then k14 x1 x2 x3 x4 (x5 + 1) M
          else ck (x6 + x8) 1344 (ck (x7 + x8) 1344 (bq (f_X11_rowNumberFits ((M.1 28 (x6 + x8).toNatClampNeg) + (x3 * (M.1 28 (x7 + x8).toNatClampNeg)))) (fun r18 => if r18 = true then f_X3_leanFits_81 k14 n81 x1 x2 x3 x4 x5 x6 x7 (x8 + 1) M
            else some false)))
def f_X3_leanFits_14  : Nat → Int32 → Int32 → Int32 → Int32 → Int32 → Mem → Option Bool
  | 0, _, _, _, _, _, _ => none
  | n14 + 1, x1, x2, x3, x4, x5, M => if (M.1 107 0) ≤ x5 then some true
      else bq (f_X3_reaches M x5 x1 x2) (fun r3 => if r3 = true then bq (f_X7_loopRow M x5 x4) (fun r7 => bq (f_X7_loopRow M x5 x2) (fun r10 => if r7 < 0 then f_X3_leanFits_14 n14 x1 x2 x3 x4 (x5 + 1) M
          else if 0 ≤ r10 then f_X3_leanFits_81 (f_X3_leanFits_14 n14) 100000 x1 x2 x3 x4 x5 r7 r10 0 M
            else f_X3_leanFits_14 n14 x1 x2 x3 x4 (x5 + 1) M))
        else f_X3_leanFits_14 n14 x1 x2 x3 x4 (x5 + 1) M)
def f_X3_leanFits (M : Mem) (x1 : Int32) (x2 : Int32) (x3 : Int32) : Option Bool :=
  ck x1 40 (f_X3_leanFits_14 100000 x1 x2 x3 (M.1 11 x1.toNatClampNeg) 0 M)
def f_X3_partFits_12  : Nat → Int32 → Int32 → Int32 → Mem → Option Bool
  | 0, _, _, _, _ => none
  | n12 + 1, x1, x2, x3, M => if (M.1 107 0) ≤ x3 then some true
      else bq (f_X2_stands M x3 x1) (fun r3 => if r3 = true then bq (f_X7_rowAhead M x3 x2) (fun r7 => if r7 < 0 then f_X3_partFits_12 n12 x1 x2 (x3 + 1) M
          else bq (f_X3_parted M x3 x2 r7) (fun r11 => bq (f_X11_rowNumberFits r11) (fun r14 => if r14 = true then f_X3_partFits_12 n12 x1 x2 (x3 + 1) M
            else some false)))
        else f_X3_partFits_12 n12 x1 x2 (x3 + 1) M)
def f_X3_partFits (M : Mem) (x1 : Int32) : Option Bool :=
  ck x1 40 (f_X3_partFits_12 100000 x1 (M.1 11 x1.toNatClampNeg) 0 M)
def f_X11_tooMany (M : Mem) : Option (Bool × Mem) :=
  bm (f_X0_refresh M) (fun M2 => some ((zb (M2.1 112 0)), M2))
def f_X11_visits (M : Mem) : Option (Int32 × Mem) :=
  bd (f_X11_tooMany M) (fun r1 M2 => if r1 = true then some ((-6), M2)
  else some ((M2.1 110 0), M2))
def f_X11_visit (M : Mem) (x1 : Int32) (x2 : Int32) (x3 : Bool) : Option (Int32 × Mem) :=
  bq (f_X11_within x2 0 4) (fun r1 => if r1 = true then bd (f_X11_tooMany M) (fun r5 M6 => if r5 = true then some ((-6), M6)
    else bq (f_X11_within x1 0 ((M6.1 110 0) - 1)) (fun r9 => if r9 = true then bd (f_X11_visitAt M6 x1 x3) (fun r13 M14 => if x2 = 0 then bq (f_X0_actNode M14 r13) (fun r20 => some (r20, M14))
        else bq (f_X0_letter M14 r13 (x2 - 1)) (fun r17 => some ((100000 + r17).toInt32, M14)))
      else some ((-9), M6)))
  else some ((-1), M))
def f_X11_has_43  : Nat → Int32 → Int32 → Int32 → Int32 → Int32 → Int32 → Mem → Option (Int32 × Mem)
  | 0, _, _, _, _, _, _, _ => none
  | n43 + 1, x1, x2, x3, x4, x5, x6, M => if (M.1 110 0) ≤ x6 then some (0, M)
      else bq (f_X0_actNode M x6) (fun r17 => if r17 = x1 then bq (f_X0_isAt M x6 x2 x3 x4 x5) (fun r21 => if r21 = true then some (1, M)
          else f_X11_has_43 n43 x1 x2 x3 x4 x5 (x6 + 1) M)
        else f_X11_has_43 n43 x1 x2 x3 x4 x5 (x6 + 1) M)
def f_X11_has (M : Mem) (x1 : Int32) (x2 : Int32) (x3 : Int32) (x4 : Int32) (x5 : Int32) : Option (Int32 × Mem) :=
  bq (f_X2_known M x1) (fun r1 => if r1 = true then bd (f_X11_tooMany M) (fun r5 M6 => if r5 = true then some ((-6), M6)
    else bq (f_X2_isAct M6 x1) (fun r9 => if r9 = true then f_X11_has_43 100000 x1 x2 x3 x4 x5 0 M6
      else bd (f_X11_meet M6 3) (fun r13 M14 => some (r13, M14))))
  else some ((-1), M))
def f_X11_points_44  : Nat → Int32 → Int32 → Int32 → Mem → Option (Int32 × Mem)
  | 0, _, _, _, _ => none
  | n44 + 1, x1, x2, x3, M => if (M.1 110 0) ≤ x3 then some (x2, M)
      else bq (f_X0_actNode M x3) (fun r17 => if r17 = x1 then f_X11_points_44 n44 x1 (x2 + 1) (x3 + 1) M
        else f_X11_points_44 n44 x1 x2 (x3 + 1) M)
def f_X11_points (M : Mem) (x1 : Int32) : Option (Int32 × Mem) :=
  bq (f_X2_known M x1) (fun r1 => if r1 = true then bd (f_X11_tooMany M) (fun r5 M6 => if r5 = true then some ((-6), M6)
    else bq (f_X2_isAct M6 x1) (fun r9 => if r9 = true then f_X11_points_44 100000 x1 0 0 M6
      else bd (f_X11_meet M6 3) (fun r13 M14 => some (r13, M14))))
  else some ((-1), M))
def f_X11_needs_65   (M : Mem) : Option (Int32 × Mem) :=
  bd (f_X11_meet M 3) (fun r32 M33 => some (r32, M33))
def f_X11_needs (M : Mem) (x1 : Int32) (x2 : Int32) (x3 : Int32) : Option (Int32 × Mem) :=
  bq (f_X2_known M x1) (fun r1 => if r1 = true then bq (f_X2_known M x2) (fun r5 => if r5 = true then bq (f_X11_within x3 0 2) (fun r9 => if r9 = true then bd (f_X11_tooMany M) (fun r13 M14 => if r13 = true then some ((-6), M14)
        else bq (f_X2_isAct M14 x1) (fun r17 => if r17 = true then bq (f_X2_isAct M14 x2) (fun r21 => if r21 = true then bm (f_X1_refresh M14) (fun M26 => bq (f_X2_pair M26 x1 x2) (fun r28 => ck ((r28 * 3) + x3) 432 (some ((M26.1 44 ((r28 * 3) + x3).toNatClampNeg), M26))))
            else f_X11_needs_65 M14)
          else f_X11_needs_65 M14))
      else some ((-1), M))
    else some ((-1), M))
  else some ((-1), M))
def f_X11_carried_17  (x1 : Int32) (M : Mem) : Option (Int32 × Mem) :=
  bd (f_X11_tooMany M) (fun r6 M7 => if r6 = true then some ((-6), M7)
    else bm (f_X1_refresh M7) (fun M11 => if x1 = (-9) then ck 4 5 (some ((M11.1 45 (4 : Int32).toNatClampNeg), M11))
      else ck x1 5 (some ((M11.1 45 x1.toNatClampNeg), M11))))
def f_X11_carried (M : Mem) (x1 : Int32) : Option (Int32 × Mem) :=
  if x1 = (-9) then f_X11_carried_17 x1 M
  else bq (f_X11_within x1 0 3) (fun r2 => if r2 = true then f_X11_carried_17 x1 M
    else some ((-1), M))
def f_X11_distance_65   (M : Mem) : Option (Int32 × Mem) :=
  bd (f_X11_meet M 3) (fun r42 M43 => some (r42, M43))
def f_X11_distance (M : Mem) (x1 : Int32) (x2 : Int32) (x3 : Int32) (x4 : Bool) : Option (Int32 × Mem) :=
  bq (f_X2_known M x1) (fun r1 => if r1 = true then bq (f_X2_known M x2) (fun r5 => if r5 = true then bq (f_X11_within x3 0 3) (fun r9 => if r9 = true then bd (f_X11_tooMany M) (fun r13 M14 => if r13 = true then some ((-6), M14)
        else bq (f_X2_isAct M14 x1) (fun r17 => if r17 = true then bq (f_X2_isAct M14 x2) (fun r21 => if r21 = true then bq (f_X2_common M14 x1 x2) (fun r25 => if x3 < r25 then bm (f_X1_refresh M14) (fun M30 => bq (f_X2_pair M30 x1 x2) (fun r32 => bq (f_X1_isAny M30 r32) (fun r35 => if r35 = true then if x4 = true then ck ((r32 * 4) + x3) 576 (some (1, sL M30 101 0 (M30.2.1 50 ((r32 * 4) + x3).toNatClampNeg)))
                  else ck ((r32 * 4) + x3) 576 (some (1, sL M30 101 0 (M30.2.1 49 ((r32 * 4) + x3).toNatClampNeg)))
                else some ((-9), M30))))
              else some ((-1), M14))
            else f_X11_distance_65 M14)
          else f_X11_distance_65 M14))
      else some ((-1), M))
    else some ((-1), M))
  else some ((-1), M))
def f_X11_free (M : Mem) (x1 : Int32) : Option (Int32 × Mem) :=
  bq (f_X2_known M x1) (fun r1 => if r1 = true then bd (f_X11_tooMany M) (fun r5 M6 => if r5 = true then some ((-6), M6)
    else bq (f_X2_isLoop M6 x1) (fun r9 => if r9 = true then bm (f_X1_refresh M6) (fun M14 => bq (f_X1_isCarriedBy M14 x1) (fun r16 => if r16 = true then some (0, M14)
        else some (1, M14)))
      else bd (f_X11_meet M6 3) (fun r20 M21 => some (r20, M21))))
  else some ((-1), M))
def f_X11_allowed (M : Mem) : Option (Int32 × Mem) :=
  bd (f_X11_tooMany M) (fun r1 M2 => if r1 = true then some ((-6), M2)
  else bd (f_X10_isAllowed M2) (fun r5 M6 => if r5 = true then some (1, M6)
    else some (0, M6)))
def f_X11_why (M : Mem) (x1 : Int32) : Option (Int32 × Mem) :=
  bq (f_X11_within x1 0 2) (fun r1 => if r1 = true then bd (f_X11_tooMany M) (fun r5 M6 => if r5 = true then some ((-6), M6)
    else bd (f_X10_isAllowed M6) (fun r9 M10 => if r9 = true then some ((-9), M10)
      else if x1 = 2 then some ((M10.1 120 0), M10)
        else if x1 = 0 then some ((M10.1 118 0), M10)
          else some ((M10.1 119 0), M10)))
  else some ((-1), M))
def f_X11_fetched (M : Mem) (x1 : Int32) (x2 : Int32) : Option (Int32 × Mem) :=
  bq (f_X11_roomFits x1 x2) (fun r1 => if r1 = true then bd (f_X11_tooMany M) (fun r5 M6 => if r5 = true then some ((-6), M6)
    else bd (f_X11_countFetched M6 x1 x2) (fun r9 M10 => some (r9, M10)))
  else some ((-1), M))
def f_X11_lines (M : Mem) : Option (Int32 × Mem) :=
  bd (f_X11_tooMany M) (fun r1 M2 => if r1 = true then some ((-6), M2)
  else bm (f_X10_partLines M2) (fun M6 => some ((M6.1 122 0), M6)))
def f_X11_written (M : Mem) (x1 : Int32) (x2 : Int32) : Option (Int32 × Mem) :=
  bq (f_X11_within x2 0 9) (fun r1 => if r1 = true then bd (f_X11_tooMany M) (fun r5 M6 => if r5 = true then some ((-6), M6)
    else bm (f_X10_partLines M6) (fun M10 => bq (f_X11_within x1 0 ((M10.1 122 0) - 1)) (fun r12 => if r12 = true then bq (f_X11_tellLine M10 x1 x2) (fun r16 => some (1, sL M10 101 0 r16))
      else some ((-9), M10))))
  else some ((-1), M))
