def f_X0_addVisit (M : Mem) (x1 : Int32) : Option Mem :=
  if (M.1 110 0) < 400 then ck (M.1 110 0) 400 (ca 0 (((sI M 35 (M.1 110 0).toNatClampNeg x1).1 110 0) * 4) 4 4 1600 (some (sI (yL (sI M 35 (M.1 110 0).toNatClampNeg x1) 37 (0 : Int32).toNatClampNeg 36 (((sI M 35 (M.1 110 0).toNatClampNeg x1).1 110 0) * 4).toNatClampNeg (4 : Int32).toNatClampNeg) 110 0 (((yL (sI M 35 (M.1 110 0).toNatClampNeg x1) 37 (0 : Int32).toNatClampNeg 36 (((sI M 35 (M.1 110 0).toNatClampNeg x1).1 110 0) * 4).toNatClampNeg (4 : Int32).toNatClampNeg).1 110 0) + 1))))
  else some (sI M 112 0 (bI true))
def f_X0_actNode (M : Mem) (x1 : Int32) : Option Int32 :=
  ck x1 400 (ck (M.1 35 x1.toNatClampNeg) 12 (some ((M.1 16 (M.1 35 x1.toNatClampNeg).toNatClampNeg))))
def f_X0_letter (M : Mem) (x1 : Int32) (x2 : Int32) : Option Int64 :=
  ck ((x1 * 4) + x2) 1600 (some ((M.2.1 36 ((x1 * 4) + x2).toNatClampNeg)))
def f_X0_isAt (M : Mem) (x1 : Int32) (x2 : Int32) (x3 : Int32) (x4 : Int32) (x5 : Int32) : Option Bool :=
  bq (f_X0_letter M x1 0) (fun r1 => if r1 = x2.toInt64 then bq (f_X0_letter M x1 1) (fun r5 => if r5 = x3.toInt64 then bq (f_X0_letter M x1 2) (fun r9 => if r9 = x4.toInt64 then bq (f_X0_letter M x1 3) (fun r13 => if r13 = x5.toInt64 then some true
        else some false)
      else some false)
    else some false)
  else some false)
def f_X0_step (M : Mem) (x1 : Int32) (x2 : Int32) (x3 : Int32) : Option Int64 :=
  ck ((x2 * 4) + x3) 1600 (ck ((x1 * 4) + x3) 1600 (some (((M.2.1 36 ((x2 * 4) + x3).toNatClampNeg) - (M.2.1 36 ((x1 * 4) + x3).toNatClampNeg)))))
def f_X1_linkReader (M : Mem) (x1 : Int32) (x2 : Int32) : Option Mem :=
  if 0 ≤ x1 then ck x1 1200 (ck x2 800 (ck x1 1200 (some (sI (sI M 54 x2.toNatClampNeg (M.1 53 x1.toNatClampNeg)) 53 x1.toNatClampNeg x2))))
  else some M
def f_X1_addNeed_125 (k59 : Int32 → Int32 → Int32 → Int32 → Bool → Int32 → Int32 → Mem → Option Mem) (x1 : Int32) (x2 : Int32) (x3 : Int32) (x4 : Int32) (x6 : Bool) (x7 : Int32) (x8 : Int32) (x9 : Int64) (x11 : Int32) (s1 : Int32) (s2 : Int64) (M : Mem) : Option Mem :=
  ck s1 576 (if x6 = true then ck x11 576 (k59 x1 x2 x3 x4 x6 x7 (x8 + (-1)) (sL (sL M 49 s1.toNatClampNeg s2) 50 x11.toNatClampNeg x9))
          else ck x11 576 (bq (f_J9_max_f86c9 ((sL M 49 s1.toNatClampNeg s2).2.1 50 x11.toNatClampNeg) x9) (fun r27 => ck x11 576 (k59 x1 x2 x3 x4 x6 x7 (x8 + (-1)) (sL (sL M 49 s1.toNatClampNeg s2) 50 x11.toNatClampNeg r27)))))
def f_X1_addNeed_88 (k59 : Int32 → Int32 → Int32 → Int32 → Bool → Int32 → Int32 → Mem → Option Mem) (x1 : Int32) (x2 : Int32) (x3 : Int32) (x4 : Int32) (x6 : Bool) (x7 : Int32) (x8 : Int32) (x9 : Int64) (M : Mem) : Option Mem :=
  if x6 = true then f_X1_addNeed_125 k59 x1 x2 x3 x4 x6 x7 x8 x9 ((x4 * 4) + x8) ((x4 * 4) + x8) x9 M
        else ck ((x4 * 4) + x8) 576 (bq (f_J9_min_f86c9 (M.2.1 49 ((x4 * 4) + x8).toNatClampNeg) x9) (fun r21 => f_X1_addNeed_125 k59 x1 x2 x3 x4 x6 x7 x8 x9 ((x4 * 4) + x8) ((x4 * 4) + x8) r21 M))
def f_X1_addNeed_59  : Nat → Int32 → Int32 → Int32 → Int32 → Bool → Int32 → Int32 → Mem → Option Mem
  | 0, _, _, _, _, _, _, _, _ => none
  | n59 + 1, x1, x2, x3, x4, x6, x7, x8, M => if x8 < 0 then ck x4 144 (ck x4 144 (ck ((x4 * 3) + x3) 432 (ck ((x4 * 3) + x3) 432 (ck x7 5 (ck x7 5 (ck ((x4 * 5) + x7) 720 (ck ((x4 * 5) + x7) 720 (some (sI (sI (sI (sI M 46 x4.toNatClampNeg ((M.1 46 x4.toNatClampNeg) + 1)) 44 ((x4 * 3) + x3).toNatClampNeg (((sI M 46 x4.toNatClampNeg ((M.1 46 x4.toNatClampNeg) + 1)).1 44 ((x4 * 3) + x3).toNatClampNeg) + 1)) 45 x7.toNatClampNeg (((sI (sI M 46 x4.toNatClampNeg ((M.1 46 x4.toNatClampNeg) + 1)) 44 ((x4 * 3) + x3).toNatClampNeg (((sI M 46 x4.toNatClampNeg ((M.1 46 x4.toNatClampNeg) + 1)).1 44 ((x4 * 3) + x3).toNatClampNeg) + 1)).1 45 x7.toNatClampNeg) + 1)) 47 ((x4 * 5) + x7).toNatClampNeg (((sI (sI (sI M 46 x4.toNatClampNeg ((M.1 46 x4.toNatClampNeg) + 1)) 44 ((x4 * 3) + x3).toNatClampNeg (((sI M 46 x4.toNatClampNeg ((M.1 46 x4.toNatClampNeg) + 1)).1 44 ((x4 * 3) + x3).toNatClampNeg) + 1)) 45 x7.toNatClampNeg (((sI (sI M 46 x4.toNatClampNeg ((M.1 46 x4.toNatClampNeg) + 1)) 44 ((x4 * 3) + x3).toNatClampNeg (((sI M 46 x4.toNatClampNeg ((M.1 46 x4.toNatClampNeg) + 1)).1 44 ((x4 * 3) + x3).toNatClampNeg) + 1)).1 45 x7.toNatClampNeg) + 1)).1 47 ((x4 * 5) + x7).toNatClampNeg) + 1))))))))))
      else bq (f_X0_step M x1 x2 x8) (fun r15 => if r15 = 0 then f_X1_addNeed_88 (f_X1_addNeed_59 n59) x1 x2 x3 x4 x6 x7 x8 r15 M
        else f_X1_addNeed_88 (f_X1_addNeed_59 n59) x1 x2 x3 x4 x6 x8 x8 r15 M)
def f_X1_addNeed (M : Mem) (x1 : Int32) (x2 : Int32) (x3 : Int32) : Option Mem :=
  ck x1 400 (ck x2 400 (ck (((M.1 35 x1.toNatClampNeg) * 12) + (M.1 35 x2.toNatClampNeg)) 144 (ck (((M.1 35 x1.toNatClampNeg) * 12) + (M.1 35 x2.toNatClampNeg)) 144 (if (M.1 46 (((M.1 35 x1.toNatClampNeg) * 12) + (M.1 35 x2.toNatClampNeg)).toNatClampNeg) = 0 then f_X1_addNeed_59 100000 x1 x2 x3 (((M.1 35 x1.toNatClampNeg) * 12) + (M.1 35 x2.toNatClampNeg)) true 4 ((M.1 48 (((M.1 35 x1.toNatClampNeg) * 12) + (M.1 35 x2.toNatClampNeg)).toNatClampNeg) - 1) M
  else f_X1_addNeed_59 100000 x1 x2 x3 (((M.1 35 x1.toNatClampNeg) * 12) + (M.1 35 x2.toNatClampNeg)) false 4 ((M.1 48 (((M.1 35 x1.toNatClampNeg) * 12) + (M.1 35 x2.toNatClampNeg)).toNatClampNeg) - 1) M))))
def f_X1_isAny (M : Mem) (x1 : Int32) : Option Bool :=
  ck x1 144 (if (M.1 46 x1.toNatClampNeg) ≤ 0 then some false
  else some true)
def f_X2_known (M : Mem) (x1 : Int32) : Option Bool :=
  if x1 < 0 then some false
  else if (M.1 106 0) ≤ x1 then some false
    else some true
def f_X2_isAct (M : Mem) (x1 : Int32) : Option Bool :=
  ck x1 40 (if (M.1 9 x1.toNatClampNeg) = 3 then some true
  else some false)
def f_X2_isLoop (M : Mem) (x1 : Int32) : Option Bool :=
  ck x1 40 (if (M.1 9 x1.toNatClampNeg) = 0 then some true
  else ck x1 40 (if (M.1 9 x1.toNatClampNeg) = 1 then some true
    else some false))
def f_X2_isOfKind (M : Mem) (x1 : Int32) (x2 : Int32) : Option Bool :=
  if x2 = 0 then bq (f_X2_isLoop M x1) (fun r4 => some r4)
  else ck x1 40 (if (M.1 9 x1.toNatClampNeg) = x2 then some true
    else some false)
def f_X2_opens (M : Mem) (x1 : Int32) : Option Bool :=
  if x1 = (-9) then some true
  else bq (f_X2_known M x1) (fun r2 => if r2 = true then bq (f_X2_isAct M x1) (fun r6 => if r6 = true then some false
      else some true)
    else some false)
def f_X2_loopsIn (M : Mem) (x1 : Int32) : Option Int32 :=
  if x1 = (-9) then some 0
  else bq (f_X2_isLoop M x1) (fun r2 => if r2 = true then ck x1 40 (some (((M.1 11 x1.toNatClampNeg) + 1)))
    else ck x1 40 (some ((M.1 11 x1.toNatClampNeg))))
def f_X2_inherit_37 (k10 : Int32 → Int32 → Int32 → Int32 → Mem → Option Mem) (x1 : Int32) (x2 : Int32) (x3 : Int32) (x4 : Int32) (s0 : Bool) (M : Mem) : Option Mem :=
  if s0 = true then ck ((x1 * 4) + x4) 160 (k10 x1 x2 x3 (x4 + 1) (sI M 14 ((x1 * 4) + x4).toNatClampNeg x2))
        else ck ((x2 * 4) + x4) 160 (ck ((x1 * 4) + x4) 160 (k10 x1 x2 x3 (x4 + 1) (sI M 14 ((x1 * 4) + x4).toNatClampNeg (M.1 14 ((x2 * 4) + x4).toNatClampNeg))))
def f_X2_inherit_36 (k37 : Int32 → Int32 → Int32 → Int32 → Bool → Mem → Option Mem) (x1 : Int32) (x2 : Int32) (x3 : Int32) (x4 : Int32) (M : Mem) : Option Mem :=
  k37 x1 x2 x3 x4 false M
def f_X2_inherit_99  : Nat → Int32 → Int32 → Int32 → Int32 → Int32 → Mem → Option Mem
  | 0, _, _, _, _, _, _ => none
  | n99 + 1, x1, x2, x3, x4, x5, M => if x3 < x5 then some M
          else if x4 ≤ x5 then ck ((x1 * 5) + x5) 200 (f_X2_inherit_99 n99 x1 x2 x3 x4 (x5 + 1) (sI M 15 ((x1 * 5) + x5).toNatClampNeg x1))
            else ck ((x2 * 5) + x5) 200 (ck ((x1 * 5) + x5) 200 (f_X2_inherit_99 n99 x1 x2 x3 x4 (x5 + 1) (sI M 15 ((x1 * 5) + x5).toNatClampNeg (M.1 15 ((x2 * 5) + x5).toNatClampNeg))))
def f_X2_inherit_10  : Nat → Int32 → Int32 → Int32 → Int32 → Mem → Option Mem
  | 0, _, _, _, _, _ => none
  | n10 + 1, x1, x2, x3, x4, M => if x3 ≤ x4 then if x2 = (-9) then f_X2_inherit_99 100000 x1 x2 x3 0 0 M
        else ck x2 40 (f_X2_inherit_99 100000 x1 x2 x3 ((M.1 11 x2.toNatClampNeg) + 1) 0 M)
      else if x4 = (x3 - 1) then bq (f_X2_isLoop M x2) (fun r6 => if r6 = true then f_X2_inherit_37 (f_X2_inherit_10 n10) x1 x2 x3 x4 true M
          else f_X2_inherit_36 (f_X2_inherit_37 (f_X2_inherit_10 n10)) x1 x2 x3 x4 M)
        else f_X2_inherit_36 (f_X2_inherit_37 (f_X2_inherit_10 n10)) x1 x2 x3 x4 M
def f_X2_inherit (M : Mem) (x1 : Int32) (x2 : Int32) : Option Mem :=
  ck x1 40 (f_X2_inherit_10 100000 x1 x2 (M.1 11 x1.toNatClampNeg) 0 M)
def f_X2_hang (M : Mem) (x1 : Int32) (x2 : Int32) : Option Mem :=
  ck x1 41 (ck x1 41 (ck x1 40 (ck x2 41 (if ((sI (sI (sI M 6 x1.toNatClampNeg (-9)) 7 x1.toNatClampNeg (-9)) 8 x1.toNatClampNeg (-9)).1 7 x2.toNatClampNeg) = (-9) then ck x2 41 (ck x2 41 (some (sI (sI (sI (sI (sI M 6 x1.toNatClampNeg (-9)) 7 x1.toNatClampNeg (-9)) 8 x1.toNatClampNeg (-9)) 6 x2.toNatClampNeg x1) 7 x2.toNatClampNeg x1)))
  else ck x2 41 (ck ((sI (sI (sI M 6 x1.toNatClampNeg (-9)) 7 x1.toNatClampNeg (-9)) 8 x1.toNatClampNeg (-9)).1 7 x2.toNatClampNeg) 40 (ck x2 41 (some (sI (sI (sI (sI (sI M 6 x1.toNatClampNeg (-9)) 7 x1.toNatClampNeg (-9)) 8 x1.toNatClampNeg (-9)) 8 ((sI (sI (sI M 6 x1.toNatClampNeg (-9)) 7 x1.toNatClampNeg (-9)) 8 x1.toNatClampNeg (-9)).1 7 x2.toNatClampNeg).toNatClampNeg x1) 7 x2.toNatClampNeg x1))))))))
def f_X2_setAim (M : Mem) (x1 : Int32) (x2 : Int32) (x3 : Int32) (x4 : Int32) : Option Mem :=
  ck x1 36 (ck x1 36 (ck x1 36 (some (sI (sI (sI M 18 x1.toNatClampNeg x2) 19 x1.toNatClampNeg x3) 20 x1.toNatClampNeg x4))))
def f_X2_tell (M : Mem) (x1 : Int32) (x2 : Int32) : Option Int32 :=
  if x2 = 0 then ck x1 40 (some ((M.1 9 x1.toNatClampNeg)))
  else if x2 = 1 then ck x1 40 (some ((M.1 10 x1.toNatClampNeg)))
  else if x2 = 2 then ck x1 40 (some ((M.1 11 x1.toNatClampNeg)))
  else if x2 = 3 then ck x1 40 (some ((M.1 12 x1.toNatClampNeg)))
  else ck x1 40 (some ((M.1 13 x1.toNatClampNeg)))
def f_X2_placeOf (M : Mem) (x1 : Int32) (x2 : Int32) : Option Int32 :=
  ck x1 12 (ck (((M.1 16 x1.toNatClampNeg) * 5) + x2) 200 (some ((M.1 15 (((M.1 16 x1.toNatClampNeg) * 5) + x2).toNatClampNeg))))
def f_X2_stands (M : Mem) (x1 : Int32) (x2 : Int32) : Option Bool :=
  ck x1 12 (ck x2 40 (ck (M.1 16 x1.toNatClampNeg) 40 (if (M.1 11 (M.1 16 x1.toNatClampNeg).toNatClampNeg) ≤ (M.1 11 x2.toNatClampNeg) then some false
  else ck (((M.1 16 x1.toNatClampNeg) * 4) + (M.1 11 x2.toNatClampNeg)) 160 (if (M.1 14 (((M.1 16 x1.toNatClampNeg) * 4) + (M.1 11 x2.toNatClampNeg)).toNatClampNeg) = x2 then some true
    else some false))))
def f_X2_hasLetter (M : Mem) (x1 : Int32) (x2 : Int32) : Option Bool :=
  ck x1 12 (ck (M.1 16 x1.toNatClampNeg) 40 (if (M.1 11 (M.1 16 x1.toNatClampNeg).toNatClampNeg) ≤ x2 then some false
  else some true))
def f_X2_firstActIn_2  : Nat → Int32 → Int32 → Mem → Option Int32
  | 0, _, _, _ => none
  | n2 + 1, x1, x2, M => if (M.1 107 0) ≤ x2 then some (-9)
      else bq (f_X2_stands M x2 x1) (fun r2 => if r2 = true then some x2
        else f_X2_firstActIn_2 n2 x1 (x2 + 1) M)
def f_X2_firstActIn (M : Mem) (x1 : Int32) : Option Int32 :=
  f_X2_firstActIn_2 100000 x1 0 M
def f_X2_pair (M : Mem) (x1 : Int32) (x2 : Int32) : Option Int32 :=
  ck x1 40 (ck x2 40 (some ((((M.1 17 x1.toNatClampNeg) * 12) + (M.1 17 x2.toNatClampNeg)))))
def f_X2_common_19  : Nat → Int32 → Int32 → Int32 → Int32 → Mem → Option Int32
  | 0, _, _, _, _, _ => none
  | n19 + 1, x1, x2, x3, x4, M => if x3 ≤ x4 then some x4
      else ck ((x1 * 4) + x4) 160 (ck ((x2 * 4) + x4) 160 (if (M.1 14 ((x1 * 4) + x4).toNatClampNeg) = (M.1 14 ((x2 * 4) + x4).toNatClampNeg) then f_X2_common_19 n19 x1 x2 x3 (x4 + 1) M
        else some x4))
def f_X2_common (M : Mem) (x1 : Int32) (x2 : Int32) : Option Int32 :=
  ck x1 40 (ck x2 40 (bq (f_J9_min_7cf53 (M.1 11 x1.toNatClampNeg) (M.1 11 x2.toNatClampNeg)) (fun r3 => f_X2_common_19 100000 x1 x2 r3 0 M)))
def f_X3_reaches (M : Mem) (x1 : Int32) (x2 : Int32) (x3 : Int32) : Option Bool :=
  bq (f_X2_stands M x1 x2) (fun r1 => if r1 = true then bq (f_X2_hasLetter M x1 x3) (fun r5 => if r5 = true then some true
    else some false)
  else some false)
def f_X3_parted (M : Mem) (x1 : Int32) (x2 : Int32) (x3 : Int32) : Option Int32 :=
  ck x3 1344 (bq (f_X2_placeOf M x1 (x2 + 1)) (fun r2 => some (((100 * (M.1 28 x3.toNatClampNeg)) + r2))))
def f_X4_isEmpty (M : Mem) (x1 : Int32) : Option Bool :=
  ck x1 40 (if (M.1 22 x1.toNatClampNeg) = 0 then some true
  else some false)
def f_X4_isNode (M : Mem) (x1 : Int32) : Option Bool :=
  ck x1 40 (if (M.1 22 x1.toNatClampNeg) = 1 then some true
  else some false)
def f_X4_isNote (M : Mem) (x1 : Int32) : Option Bool :=
  ck x1 40 (if (M.1 22 x1.toNatClampNeg) = 2 then some true
  else some false)
def f_X4_empty (M : Mem) (x1 : Int32) : Option Mem :=
  ck x1 40 (some (sI M 22 x1.toNatClampNeg 0))
def f_X4_putNode (M : Mem) (x1 : Int32) (x2 : Int32) : Option Mem :=
  ck x1 40 (ck x1 40 (some (sI (sI M 22 x1.toNatClampNeg 1) 23 x1.toNatClampNeg x2)))
def f_X4_putNote (M : Mem) (x1 : Int32) (x2 : Int32) : Option Mem :=
  ck x1 40 (ck x1 40 (cf (x1 * 12) ((x1 * 12) + x2) 480 (some (fI (sI (sI M 22 x1.toNatClampNeg 2) 23 x1.toNatClampNeg x2) 24 (x1 * 12).toNatClampNeg ((x1 * 12) + x2).toNatClampNeg (vp_nar .byte 0)))))
def f_X4_change (M : Mem) (x1 : Int32) (x2 : Int32) (x3 : Int32) : Option (Int32 × Mem) :=
  ck ((x1 * 12) + x2) 480 (ck ((x1 * 12) + x2) 480 (some ((M.1 24 ((x1 * 12) + x2).toNatClampNeg), sI M 24 ((x1 * 12) + x2).toNatClampNeg (vp_nar .byte x3.toInt8.toInt32))))
def f_X4_spans (M : Mem) (x1 : Int32) (x2 : Int32) (x3 : Int32) : Option Bool :=
  if x2 < 0 then some false
  else if x3 < 0 then some false
    else ck x1 40 (if (M.1 23 x1.toNatClampNeg).toInt64 < (x2.toInt64 + x3.toInt64) then some false
      else some true)
def f_X4_move (M : Mem) (x1 : Int32) (x2 : Int32) (x3 : Int32) (x4 : Int32) (x5 : Int32) : Option Mem :=
  ca ((x1 * 12) + x2) ((x3 * 12) + x4) x5 480 480 (cB (M.1 24) ((x1 * 12) + x2).toNatClampNeg x5.toNatClampNeg (some (yI M 24 ((x1 * 12) + x2).toNatClampNeg 24 ((x3 * 12) + x4).toNatClampNeg x5.toNatClampNeg)))
def f_X6_clear (M : Mem) (x1 : Int32) : Option Mem :=
  bq (f_J9_min_7cf53 x1 16) (fun r1 => some (sI (sI M 124 0 r1) 125 0 0))
def f_X6_bring_109  : Nat → Int32 → Int64 → Int64 → Bool → Int32 → Mem → Option (Bool × Mem)
  | 0, _, _, _, _, _, _ => none
  | n109 + 1, x1, x2, x4, x7, x8, M => if x8 ≤ 0 then ck 0 16 (ck 0 16 (ck 0 16 (some (x7, sL (sL (sI M 64 (0 : Int32).toNatClampNeg x1) 65 (0 : Int32).toNatClampNeg x2) 66 (0 : Int32).toNatClampNeg x4))))
                else ck (x8 - 1) 16 (ck x8 16 (ck (x8 - 1) 16 (ck x8 16 (ck (x8 - 1) 16 (ck x8 16 (f_X6_bring_109 n109 x1 x2 x4 x7 (x8 + (-1)) (sL (sL (sI M 64 x8.toNatClampNeg (M.1 64 (x8 - 1).toNatClampNeg)) 65 x8.toNatClampNeg ((sI M 64 x8.toNatClampNeg (M.1 64 (x8 - 1).toNatClampNeg)).2.1 65 (x8 - 1).toNatClampNeg)) 66 x8.toNatClampNeg ((sL (sI M 64 x8.toNatClampNeg (M.1 64 (x8 - 1).toNatClampNeg)) 65 x8.toNatClampNeg ((sI M 64 x8.toNatClampNeg (M.1 64 (x8 - 1).toNatClampNeg)).2.1 65 (x8 - 1).toNatClampNeg)).2.1 66 (x8 - 1).toNatClampNeg))))))))
def f_X6_bring_96  (x1 : Int32) (x2 : Int64) (x4 : Int64) (x6 : Int32) (x7 : Bool) (M : Mem) : Option (Bool × Mem) :=
  bq (f_J9_min_7cf53 x6 ((M.1 125 0) - 1)) (fun r11 => f_X6_bring_109 100000 x1 x2 x4 x7 r11 M)
def f_X6_bring_68  (x1 : Int32) (x2 : Int64) (x4 : Int64) (x6 : Int32) (s0 : Bool) (M : Mem) : Option (Bool × Mem) :=
  if s0 = true then if (M.1 124 0) ≤ (M.1 125 0) then f_X6_bring_96 x1 x2 x4 x6 s0 M
            else f_X6_bring_96 x1 x2 x4 x6 s0 (sI M 125 0 ((M.1 125 0) + 1))
          else f_X6_bring_96 x1 x2 x4 x6 s0 M
def f_X6_bring_54  (x1 : Int32) (x2 : Int64) (x4 : Int64) (x6 : Int32) (M : Mem) : Option (Bool × Mem) :=
  if x6 < (M.1 125 0) then f_X6_bring_68 x1 x2 x4 x6 false M
        else f_X6_bring_68 x1 x2 x4 x6 true M
def f_X6_bring_3  : Nat → Int32 → Int64 → Int64 → Int32 → Mem → Option (Bool × Mem)
  | 0, _, _, _, _, _ => none
  | n3 + 1, x1, x2, x4, x6, M => if (M.1 125 0) ≤ x6 then f_X6_bring_54 x1 x2 x4 x6 M
      else ck x6 16 (if (M.1 64 x6.toNatClampNeg) = x1 then ck x6 16 (if (M.2.1 65 x6.toNatClampNeg) = x2 then ck x6 16 (if (M.2.1 66 x6.toNatClampNeg) = x4 then f_X6_bring_54 x1 x2 x4 x6 M
            else f_X6_bring_3 n3 x1 x2 x4 (x6 + 1) M)
          else f_X6_bring_3 n3 x1 x2 x4 (x6 + 1) M)
        else f_X6_bring_3 n3 x1 x2 x4 (x6 + 1) M)
def f_X6_bring (M : Mem) (x1 : Int32) (x2 : Int64) (x4 : Int64) : Option (Bool × Mem) :=
  f_X6_bring_3 100000 x1 x2 x4 0 M
def f_X7_at (M : Mem) (x1 : Int32) (x2 : Int32) : Option Int32 :=
  some ((((x1 * 16) + x2) * 7))
def f_X7_take_an (M : Mem) (x2 : Int32) : Option Mem :=
  ca 0 0 ((x2 * 16) * 7) 1344 1344 (ca 0 0 x2 12 12 (some (yI (yI M 28 (0 : Int32).toNatClampNeg 31 (0 : Int32).toNatClampNeg ((x2 * 16) * 7).toNatClampNeg) 29 (0 : Int32).toNatClampNeg 32 (0 : Int32).toNatClampNeg x2.toNatClampNeg)))
def f_X7_take_na (M : Mem) (x2 : Int32) : Option Mem :=
  ca 0 0 ((x2 * 16) * 7) 1344 1344 (ca 0 0 x2 12 12 (some (yI (yI M 31 (0 : Int32).toNatClampNeg 28 (0 : Int32).toNatClampNeg ((x2 * 16) * 7).toNatClampNeg) 32 (0 : Int32).toNatClampNeg 29 (0 : Int32).toNatClampNeg x2.toNatClampNeg)))
def f_X7_addRow (M : Mem) (x1 : Int32) : Option (Int32 × Mem) :=
  ck x1 12 (bq (f_X7_at M x1 (M.1 29 x1.toNatClampNeg)) (fun r2 => cf r2 (r2 + 7) 1344 (ck (r2 + 5) 1344 (ck (r2 + 6) 1344 (ck x1 12 (ck x1 12 (some (r2, sI (sI (sI (fI M 28 r2.toNatClampNeg (r2 + 7).toNatClampNeg 0) 28 (r2 + 5).toNatClampNeg 1) 28 (r2 + 6).toNatClampNeg (-9)) 29 x1.toNatClampNeg (((sI (sI (fI M 28 r2.toNatClampNeg (r2 + 7).toNatClampNeg 0) 28 (r2 + 5).toNatClampNeg 1) 28 (r2 + 6).toNatClampNeg (-9)).1 29 x1.toNatClampNeg) + 1)))))))))
def f_X7_loopRow_2  : Nat → Int32 → Int32 → Int32 → Mem → Option Int32
  | 0, _, _, _, _ => none
  | n2 + 1, x1, x2, x3, M => ck x1 12 (if (M.1 29 x1.toNatClampNeg) ≤ x3 then some (-9)
      else bq (f_X7_at M x1 x3) (fun r3 => ck (r3 + 6) 1344 (if (M.1 28 (r3 + 6).toNatClampNeg) = x2 then some r3
        else f_X7_loopRow_2 n2 x1 x2 (x3 + 1) M)))
def f_X7_loopRow (M : Mem) (x1 : Int32) (x2 : Int32) : Option Int32 :=
  f_X7_loopRow_2 100000 x1 x2 0 M
def f_X7_rowAhead (M : Mem) (x1 : Int32) (x2 : Int32) : Option Int32 :=
  bq (f_X7_loopRow M x1 x2) (fun r1 => bq (f_X7_at M x1 0) (fun r4 => if r1 ≤ r4 then some (-9)
  else some ((r1 - 7))))
def f_X7_openRows (M : Mem) (x1 : Int32) (x2 : Int32) (x3 : Int32) : Option Mem :=
  ck x1 12 (bq (f_X7_at M x1 (M.1 29 x1.toNatClampNeg)) (fun r2 => ca x2 (x2 + (x3 * 7)) (r2 - x2) 1344 1344 (ck x1 12 (ck x1 12 (some (sI (yI M 28 x2.toNatClampNeg 28 (x2 + (x3 * 7)).toNatClampNeg (r2 - x2).toNatClampNeg) 29 x1.toNatClampNeg (((yI M 28 x2.toNatClampNeg 28 (x2 + (x3 * 7)).toNatClampNeg (r2 - x2).toNatClampNeg).1 29 x1.toNatClampNeg) + x3)))))))
def f_X7_mix_33 (k3 : Int64 → Int32 → Int32 → Mem → Option Int64) : Nat → Int64 → Int32 → Int32 → Int32 → Int32 → Mem → Option Int64
  | 0, _, _, _, _, _, _ => none
  | n33 + 1, x1, x3, x4, x5, x6, M => if x5 ≤ x6 then k3 x1 x3 (x4 + 1) M
          else ck x6 1344 (f_X7_mix_33 k3 n33 ((31 * x1) + (M.1 28 x6.toNatClampNeg).toInt64) x3 x4 x5 (x6 + 1) M)
def f_X7_mix_3  : Nat → Int64 → Int32 → Int32 → Mem → Option Int64
  | 0, _, _, _, _ => none
  | n3 + 1, x1, x3, x4, M => if x3 ≤ x4 then some x1
      else ck x4 12 (bq (f_X7_at M x4 (M.1 29 x4.toNatClampNeg)) (fun r3 => bq (f_X7_at M x4 0) (fun r6 => f_X7_mix_33 (f_X7_mix_3 n3) 100000 x1 x3 x4 r3 r6 M)))
def f_X7_mix (M : Mem) (x1 : Int64) (x3 : Int32) : Option Int64 :=
  f_X7_mix_3 100000 x1 x3 0 M
def f_X8_known (M : Mem) (x1 : Int32) : Option Bool :=
  if x1 < 0 then some false
  else if (M.1 105 0) ≤ x1 then some false
    else some true
def f_X8_keepDraft (M : Mem) : Option (Int32 × Mem) :=
  ca 0 ((M.1 105 0) * 8) 8 8 640 (some ((((sI (fI (yI M 3 (0 : Int32).toNatClampNeg 4 ((M.1 105 0) * 8).toNatClampNeg (8 : Int32).toNatClampNeg) 3 0 8 0) 105 0 (((fI (yI M 3 (0 : Int32).toNatClampNeg 4 ((M.1 105 0) * 8).toNatClampNeg (8 : Int32).toNatClampNeg) 3 0 8 0).1 105 0) + 1)).1 105 0) - 1), sI (fI (yI M 3 (0 : Int32).toNatClampNeg 4 ((M.1 105 0) * 8).toNatClampNeg (8 : Int32).toNatClampNeg) 3 0 8 0) 105 0 (((fI (yI M 3 (0 : Int32).toNatClampNeg 4 ((M.1 105 0) * 8).toNatClampNeg (8 : Int32).toNatClampNeg) 3 0 8 0).1 105 0) + 1)))
def f_X8_fits_23  : Nat → Int32 → Int32 → Mem → Option Bool
  | 0, _, _, _ => none
  | n23 + 1, x3, x4, M => if 4 ≤ x4 then some true
      else ck (x3 + x4) 640 (if (M.1 4 (x3 + x4).toNatClampNeg) = 0 then f_X8_fits_23 n23 x3 (x4 + 1) M
        else some false)
def f_X8_fits (M : Mem) (x1 : Int32) (x2 : Int32) : Option Bool :=
  bq (f_X8_known M x1) (fun r1 => if r1 = true then f_X8_fits_23 100000 (((x1 * 8) + 8) - 4) x2 M
  else some false)
def f_X8_reckon_h_61  : Nat → Int32 → Int32 → Int64 → Int32 → Mem → Option Int64
  | 0, _, _, _, _, _ => none
  | n61 + 1, x3, x4, x5, x7, M => if 4 ≤ x7 then some x5
          else ck (((x4 + 1) + 3) + x7) 640 (ck (x3 + x7) 4 (f_X8_reckon_h_61 n61 x3 x4 (x5 + ((M.1 4 (((x4 + 1) + 3) + x7).toNatClampNeg).toInt64 * (M.2.1 37 (x3 + x7).toNatClampNeg))) (x7 + 1) M))
def f_X8_reckon_h_19  : Nat → Int32 → Int32 → Int64 → Int32 → Mem → Option Int64
  | 0, _, _, _, _, _ => none
  | n19 + 1, x3, x4, x5, x7, M => if 3 ≤ x7 then f_X8_reckon_h_61 100000 x3 x4 x5 0 M
      else ck ((x4 + 1) + x7) 640 (ck x7 3 (f_X8_reckon_h_19 n19 x3 x4 (x5 + ((M.1 4 ((x4 + 1) + x7).toNatClampNeg).toInt64 * (M.1 2 x7.toNatClampNeg).toInt64)) (x7 + 1) M))
def f_X8_reckon_h (M : Mem) (x1 : Int32) (x3 : Int32) : Option Int64 :=
  ck (x1 * 8) 640 (f_X8_reckon_h_19 100000 x3 (x1 * 8) (M.1 4 (x1 * 8).toNatClampNeg).toInt64 0 M)
def f_X8_reckon_l_61  : Nat → Int32 → Int32 → Int64 → Int32 → Mem → Option Int64
  | 0, _, _, _, _, _ => none
  | n61 + 1, x3, x4, x5, x7, M => if 4 ≤ x7 then some x5
          else ck (((x4 + 1) + 3) + x7) 640 (ck (x3 + x7) 1600 (f_X8_reckon_l_61 n61 x3 x4 (x5 + ((M.1 4 (((x4 + 1) + 3) + x7).toNatClampNeg).toInt64 * (M.2.1 36 (x3 + x7).toNatClampNeg))) (x7 + 1) M))
def f_X8_reckon_l_19  : Nat → Int32 → Int32 → Int64 → Int32 → Mem → Option Int64
  | 0, _, _, _, _, _ => none
  | n19 + 1, x3, x4, x5, x7, M => if 3 ≤ x7 then f_X8_reckon_l_61 100000 x3 x4 x5 0 M
      else ck ((x4 + 1) + x7) 640 (ck x7 3 (f_X8_reckon_l_19 n19 x3 x4 (x5 + ((M.1 4 ((x4 + 1) + x7).toNatClampNeg).toInt64 * (M.1 2 x7.toNatClampNeg).toInt64)) (x7 + 1) M))
def f_X8_reckon_l (M : Mem) (x1 : Int32) (x3 : Int32) : Option Int64 :=
  ck (x1 * 8) 640 (f_X8_reckon_l_19 100000 x3 (x1 * 8) (M.1 4 (x1 * 8).toNatClampNeg).toInt64 0 M)
def f_X9_arrayAt (M : Mem) (x1 : Int32) (x2 : Int32) : Option Int32 :=
  ck x1 400 (ck (((M.1 35 x1.toNatClampNeg) * 3) + x2) 36 (some ((M.1 18 (((M.1 35 x1.toNatClampNeg) * 3) + x2).toNatClampNeg))))
def f_X9_slotOf (x0 : Int32) (x1 : Int64) (x3 : Int64) : Option Int32 :=
  some ((((((x1 * (-7046029254386353131)) + (x3 * (-4417276706812531889))) + (x0.toInt64 * 7146057691288625177)).toUInt64 >>> ((48 : Int32).toInt64.toUInt64 &&& Int64.toUInt64 63)).toInt64.toInt32 &&& 2047))
def f_X9_isSame (M : Mem) (x1 : Int32) (x2 : Int32) : Option Bool :=
  ck x1 1200 (if (M.1 41 x1.toNatClampNeg) < 0 then some false
  else ck x1 1200 (ck x2 1200 (if (M.1 41 x1.toNatClampNeg) = (M.1 41 x2.toNatClampNeg) then some true
    else some false)))
def f_X9_leastKind (M : Mem) (x1 : Int32) (x2 : Int32) : Option Int32 :=
  bq (f_X9_isSame M (x1 * 3) ((x2 * 3) + 1)) (fun r1 => if r1 = true then some 0
  else bq (f_X9_isSame M (x1 * 3) ((x2 * 3) + 2)) (fun r5 => if r5 = true then some 0
    else bq (f_X9_isSame M ((x1 * 3) + 1) (x2 * 3)) (fun r9 => if r9 = true then some 1
      else bq (f_X9_isSame M ((x1 * 3) + 2) (x2 * 3)) (fun r13 => if r13 = true then some 1
        else bq (f_X9_isSame M (x1 * 3) (x2 * 3)) (fun r17 => if r17 = true then some 2
          else some (-9))))))
def f_X10_reckonTimes_54 (k21 : Int32 → Int32 → Int32 → Mem → Option Mem) : Nat → Int32 → Int32 → Int32 → Int32 → Int64 → Int32 → Mem → Option Mem
  | 0, _, _, _, _, _, _, _ => none
  | n54 + 1, x1, x3, x4, x5, x6, x8, M => if 4 ≤ x8 then ck (x5 + 5) 1344 (if (M.1 28 (x5 + 5).toNatClampNeg) ≤ 1 then ck ((x1 * 16) + x4) 6400 (k21 x1 x3 (x4 + 1) (sL M 56 ((x1 * 16) + x4).toNatClampNeg x6))
            else bq (f_J9_floorDiv_f86c9 x6 (M.1 28 (x5 + 5).toNatClampNeg).toInt64) (fun r12 => ck ((x1 * 16) + x4) 6400 (k21 x1 x3 (x4 + 1) (sL M 56 ((x1 * 16) + x4).toNatClampNeg r12))))
          else ck ((x5 + 1) + x8) 1344 (bq (f_X0_letter M x1 x8) (fun r17 => f_X10_reckonTimes_54 k21 n54 x1 x3 x4 x5 (x6 + ((M.1 28 ((x5 + 1) + x8).toNatClampNeg).toInt64 * r17)) (x8 + 1) M))
def f_X10_reckonTimes_21  : Nat → Int32 → Int32 → Int32 → Mem → Option Mem
  | 0, _, _, _, _ => none
  | n21 + 1, x1, x3, x4, M => ck x3 12 (if (M.1 29 x3.toNatClampNeg) ≤ x4 then some M
      else bq (f_X7_at M x3 x4) (fun r4 => ck r4 1344 (f_X10_reckonTimes_54 (f_X10_reckonTimes_21 n21) 100000 x1 x3 x4 r4 (M.1 28 r4.toNatClampNeg).toInt64 0 M)))
def f_X10_reckonTimes (M : Mem) (x1 : Int32) : Option Mem :=
  ck x1 400 (f_X10_reckonTimes_21 100000 x1 (M.1 35 x1.toNatClampNeg) 0 M)
def f_X10_isBehind_54  : Nat → Int32 → Int32 → Int32 → Int32 → Int32 → Int32 → Mem → Option Bool
  | 0, _, _, _, _, _, _, _ => none
  | n54 + 1, x1, x2, x3, x4, x5, x6, M => if x5 ≤ x6 then if x3 ≤ x4 then some false
        else some true
      else ck ((x1 * 16) + x6) 6400 (ck ((x2 * 16) + x6) 6400 (if (M.2.1 56 ((x1 * 16) + x6).toNatClampNeg) = (M.2.1 56 ((x2 * 16) + x6).toNatClampNeg) then f_X10_isBehind_54 n54 x1 x2 x3 x4 x5 (x6 + 1) M
        else if (M.2.1 56 ((x1 * 16) + x6).toNatClampNeg) ≤ (M.2.1 56 ((x2 * 16) + x6).toNatClampNeg) then some false
          else some true))
def f_X10_isBehind (M : Mem) (x1 : Int32) (x2 : Int32) : Option Bool :=
  ck x1 400 (ck (M.1 35 x1.toNatClampNeg) 12 (ck x2 400 (ck (M.1 35 x2.toNatClampNeg) 12 (bq (f_J9_min_7cf53 (M.1 29 (M.1 35 x1.toNatClampNeg).toNatClampNeg) (M.1 29 (M.1 35 x2.toNatClampNeg).toNatClampNeg)) (fun r5 => f_X10_isBehind_54 100000 x1 x2 (M.1 29 (M.1 35 x1.toNatClampNeg).toNatClampNeg) (M.1 29 (M.1 35 x2.toNatClampNeg).toNatClampNeg) r5 0 M)))))
def f_X10_latestAt_t (M : Mem) (x1 : Int32) : Option Int32 :=
  if 0 ≤ x1 then ck x1 1200 (some ((M.1 61 x1.toNatClampNeg)))
  else some (-9)
def f_X10_latestAt_w (M : Mem) (x1 : Int32) : Option Int32 :=
  if 0 ≤ x1 then ck x1 1200 (some ((M.1 60 x1.toNatClampNeg)))
  else some (-9)
def f_X10_remember_2  : Nat → Int32 → Int32 → Mem → Option Mem
  | 0, _, _, _ => none
  | n2 + 1, x1, x2, M => if 3 ≤ x2 then some M
      else ck ((x1 * 3) + x2) 1200 (if 0 ≤ (M.1 41 ((x1 * 3) + x2).toNatClampNeg) then ck (M.1 41 ((x1 * 3) + x2).toNatClampNeg) 1200 (ck x1 400 (bq (f_J9_max_7cf53 (M.1 61 (M.1 41 ((x1 * 3) + x2).toNatClampNeg).toNatClampNeg) (M.1 59 x1.toNatClampNeg)) (fun r6 => ck (M.1 41 ((x1 * 3) + x2).toNatClampNeg) 1200 (if x2 = 0 then ck (M.1 41 ((x1 * 3) + x2).toNatClampNeg) 1200 (ck x1 400 (bq (f_J9_max_7cf53 ((sI M 61 (M.1 41 ((x1 * 3) + x2).toNatClampNeg).toNatClampNeg r6).1 60 (M.1 41 ((x1 * 3) + x2).toNatClampNeg).toNatClampNeg) ((sI M 61 (M.1 41 ((x1 * 3) + x2).toNatClampNeg).toNatClampNeg r6).1 59 x1.toNatClampNeg)) (fun r13 => ck (M.1 41 ((x1 * 3) + x2).toNatClampNeg) 1200 (f_X10_remember_2 n2 x1 (x2 + 1) (sI (sI M 61 (M.1 41 ((x1 * 3) + x2).toNatClampNeg).toNatClampNeg r6) 60 (M.1 41 ((x1 * 3) + x2).toNatClampNeg).toNatClampNeg r13)))))
          else f_X10_remember_2 n2 x1 (x2 + 1) (sI M 61 (M.1 41 ((x1 * 3) + x2).toNatClampNeg).toNatClampNeg r6)))))
        else f_X10_remember_2 n2 x1 (x2 + 1) M)
def f_X10_remember (M : Mem) (x1 : Int32) : Option Mem :=
  f_X10_remember_2 100000 x1 0 M
def f_X10_findPartner_36 (k2 : Int32 → Int32 → Mem → Option Mem) (x1 : Int32) (x2 : Int32) (s0 : Int32) (M : Mem) : Option Mem :=
  if s0 < 0 then k2 x1 (x2 + 1) M
        else some (sI (sI M 118 0 x2) 120 0 s0)
def f_X10_findPartner_2  : Nat → Int32 → Int32 → Mem → Option Mem
  | 0, _, _, _ => none
  | n2 + 1, x1, x2, M => if x1 ≤ x2 then some M
      else ck x2 400 (ck x1 400 (if (M.1 59 x2.toNatClampNeg) ≤ (M.1 59 x1.toNatClampNeg) then f_X10_findPartner_36 (f_X10_findPartner_2 n2) x1 x2 (-9) M
        else bq (f_X9_leastKind M x2 x1) (fun r5 => f_X10_findPartner_36 (f_X10_findPartner_2 n2) x1 x2 r5 M)))
def f_X10_findPartner (M : Mem) (x1 : Int32) : Option Mem :=
  f_X10_findPartner_2 100000 x1 0 M
def f_X10_goesOn_62  : Nat → Int32 → Int32 → Int32 → Int32 → Int32 → Mem → Option Bool
  | 0, _, _, _, _, _, _ => none
  | n62 + 1, x3, x4, x5, x6, x7, M => if 4 ≤ x7 then some true
      else bq (f_X0_step M x3 x4 x7) (fun r9 => bq (f_X0_step M x5 x6 x7) (fun r12 => if r9 = r12 then f_X10_goesOn_62 n62 x3 x4 x5 x6 (x7 + 1) M
        else some false))
def f_X10_goesOn (M : Mem) (x1 : Int32) (x2 : Int32) : Option Bool :=
  ck (x2 - 1) 400 (ck x2 400 (ck (M.1 57 (x2 - 1).toNatClampNeg) 400 (ck (M.1 57 x2.toNatClampNeg) 400 (if (M.1 35 (M.1 57 (x2 - 1).toNatClampNeg).toNatClampNeg) = (M.1 35 (M.1 57 x2.toNatClampNeg).toNatClampNeg) then ck x1 400 (ck (x1 + 1) 400 (f_X10_goesOn_62 100000 (M.1 57 (x2 - 1).toNatClampNeg) (M.1 57 x2.toNatClampNeg) (M.1 57 x1.toNatClampNeg) (M.1 57 (x1 + 1).toNatClampNeg) 0 M))
  else some false))))
def f_X11_sum (M : Mem) : Option (Int32 × Mem) :=
  if (M.1 105 0) < 80 then bd (f_X8_keepDraft M) (fun r2 M3 => some (r2, M3))
  else some ((-2), M)
def f_X11_hold (M : Mem) (x1 : Int32) (x2 : Int32) : Option (Int32 × Mem) :=
  bq (f_X2_known M x1) (fun r1 => if r1 = true then if x1 = x2 then some ((-1), M)
    else if x2 = (-9) then bm (f_X4_empty M x1) (fun M15 => some (1, M15))
      else bq (f_X2_known M x2) (fun r7 => if r7 = true then bm (f_X4_putNode M x1 x2) (fun M12 => some (1, M12))
        else some ((-1), M))
  else some ((-1), M))
def f_X11_asked (M : Mem) : Option Int64 :=
  some ((M.2.1 101 0))
def f_X11_count (M : Mem) (x1 : Int32) : Option Int32 :=
  if x1 = 0 then some ((M.1 105 0))
  else if x1 = 1 then some ((M.1 106 0))
  else if x1 = 2 then some ((M.1 107 0))
  else if x1 = 3 then some ((M.1 100 0))
  else if x1 = 4 then some ((M.1 109 0))
  else some (-1)
def f_X11_finding (M : Mem) : Option Int32 :=
  some ((M.1 102 0))
def f_X11_within (x0 : Int32) (x1 : Int32) (x2 : Int32) : Option Bool :=
  if x0 < x1 then some false
  else if x2 < x0 then some false
    else some true
def f_X11_rowNumberFits (x0 : Int32) : Option Bool :=
  bq (f_X11_within x0 (-100000) 100000) (fun r1 => some r1)
def f_X11_roomFits (x0 : Int32) (x1 : Int32) : Option Bool :=
  bq (f_X11_within x0 1 16) (fun r1 => if r1 = true then bq (f_X11_within x1 1 20) (fun r5 => if r5 = true then some true
    else some false)
  else some false)
def f_X11_meet (M : Mem) (x1 : Int32) : Option (Int32 × Mem) :=
  ck x1 6 (ck x1 6 (some ((-3), sI (sI M 102 0 x1) 67 x1.toNatClampNeg (((sI M 102 0 x1).1 67 x1.toNatClampNeg) + 1))))
def f_X11_aimsChanged (M : Mem) : Option Mem :=
  some (sI (sI (sI M 115 0 (bI false)) 116 0 (bI false)) 121 0 (bI false))
def f_X11_ordersChanged (M : Mem) : Option Mem :=
  some (sI (sI (sI M 117 0 (bI false)) 121 0 (bI false)) 123 0 (bI false))
def f_X11_turned (M : Mem) : Option (Int32 × Mem) :=
  bm (f_X11_ordersChanged M) (fun M2 => some (1, M2))
def f_X11_outcome (M : Mem) (x1 : Int32) (x2 : Int64) (x4 : Int64) : Option Int64 :=
  ck x1 40 (ck x1 40 (if (M.1 12 x1.toNatClampNeg) = 0 then some x2
  else if (M.1 12 x1.toNatClampNeg) = 1 then some ((x2 + x4))
  else if (M.1 12 x1.toNatClampNeg) = 2 then some ((x2 * x4))
  else if (M.1 12 x1.toNatClampNeg) = 3 then if x4 = 0 then some 0
    else nzL x4 (some ((x2 / x4)))
  else if (M.1 12 x1.toNatClampNeg) = 4 then some ((M.1 13 x1.toNatClampNeg).toInt64)
  else some ((x2 + (M.1 13 x1.toNatClampNeg).toInt64))))
def f_X11_endAt_14  : Nat → Int32 → Int32 → Mem → Option Mem
  | 0, _, _, _ => none
  | n14 + 1, x1, x2, M => if 4 ≤ x2 then some M
      else bq (f_X0_letter M x1 x2) (fun r5 => ck x2 4 (f_X11_endAt_14 n14 x1 (x2 + 1) (sL M 68 x2.toNatClampNeg r5)))
def f_X11_endAt (M : Mem) (x1 : Int32) : Option Mem :=
  bq (f_X0_actNode M x1) (fun r1 => f_X11_endAt_14 100000 x1 0 (sI M 104 0 r1))
def f_X11_fetchBy (M : Mem) (x1 : Int32) (x2 : Int32) (x3 : Int32) : Option (Int32 × Mem) :=
  bq (f_X9_arrayAt M x1 x2) (fun r1 => if r1 < 0 then some (0, M)
  else if 0 < x3 then ck ((x1 * 3) + x2) 1200 (ck ((x1 * 3) + x2) 1200 (bq (f_J9_floorDiv_f86c9 (M.2.1 40 ((x1 * 3) + x2).toNatClampNeg) x3.toInt64) (fun r8 => bd (f_X6_bring M r1 (M.2.1 39 ((x1 * 3) + x2).toNatClampNeg) r8) (fun r11 M12 => if r11 = true then some (1, M12)
      else some (0, M12)))))
    else some (0, M))
def f_X11_choicesOf (M : Mem) (x1 : Int32) : Option Int32 :=
  ck x1 40 (some (((4 - (M.1 11 x1.toNatClampNeg)) + 1)))
def f_X11_tellLine (M : Mem) (x1 : Int32) (x2 : Int32) : Option Int64 :=
  ck x1 401 (ck (x1 + 1) 401 (ck (M.1 62 x1.toNatClampNeg) 400 (if x2 = 0 then bq (f_X0_actNode M (M.1 57 (M.1 62 x1.toNatClampNeg).toNatClampNeg)) (fun r18 => some r18.toInt64)
  else if x2 = 9 then some (((M.1 62 (x1 + 1).toNatClampNeg) - (M.1 62 x1.toNatClampNeg)).toInt64)
    else if 4 < x2 then if 2 ≤ ((M.1 62 (x1 + 1).toNatClampNeg) - (M.1 62 x1.toNatClampNeg)) then ck ((M.1 62 x1.toNatClampNeg) + 1) 400 (bq (f_X0_letter M (M.1 57 ((M.1 62 x1.toNatClampNeg) + 1).toNatClampNeg) ((x2 - 4) - 1)) (fun r9 => bq (f_X0_letter M (M.1 57 (M.1 62 x1.toNatClampNeg).toNatClampNeg) ((x2 - 4) - 1)) (fun r12 => some ((r9 - r12)))))
        else some 0
      else bq (f_X0_letter M (M.1 57 (M.1 62 x1.toNatClampNeg).toNatClampNeg) (x2 - 1)) (fun r15 => some r15))))
def f_X0_passes (M : Mem) (x1 : Int32) : Option Bool :=
  ck x1 40 (bq (f_X8_reckon_h M (M.1 12 x1.toNatClampNeg) 0) (fun r2 => ck x1 40 (if 0 < (M.1 13 x1.toNatClampNeg) then nzL (M.1 13 x1.toNatClampNeg).toInt64 (if (r2 - r2 / (M.1 13 x1.toNatClampNeg).toInt64 * (M.1 13 x1.toNatClampNeg).toInt64) = 0 then some true
    else some false)
  else if r2 < 0 then some false
    else some true)))
def f_X1_clear_81 (k68 : Int32 → Mem → Option Mem) : Nat → Int32 → Int32 → Mem → Option Mem
  | 0, _, _, _ => none
  | n81 + 1, x1, x2, M => if (M.1 107 0) ≤ x2 then k68 (x1 + 1) M
          else ck x1 12 (ck x2 12 (bq (f_X2_common M (M.1 16 x1.toNatClampNeg) (M.1 16 x2.toNatClampNeg)) (fun r7 => ck ((x1 * 12) + x2) 144 (f_X1_clear_81 k68 n81 x1 (x2 + 1) (sI M 48 ((x1 * 12) + x2).toNatClampNeg r7)))))
def f_X1_clear_68  : Nat → Int32 → Mem → Option Mem
  | 0, _, _ => none
  | n68 + 1, x1, M => if (M.1 107 0) ≤ x1 then some M
      else f_X1_clear_81 (f_X1_clear_68 n68) 100000 x1 0 M
def f_X1_clear (M : Mem) : Option Mem :=
  cf 0 ((fI (fI (fI (fI M 44 0 432 0) 45 0 5 0) 46 0 144 0) 47 0 720 0).1 114 0) 1200 (cf 0 ((fI (fI (fI (fI (fI M 44 0 432 0) 45 0 5 0) 46 0 144 0) 47 0 720 0) 51 (0 : Int32).toNatClampNeg ((fI (fI (fI (fI M 44 0 432 0) 45 0 5 0) 46 0 144 0) 47 0 720 0).1 114 0).toNatClampNeg (-9)).1 114 0) 1200 (f_X1_clear_68 100000 0 (fI (fI (fI (fI (fI (fI M 44 0 432 0) 45 0 5 0) 46 0 144 0) 47 0 720 0) 51 (0 : Int32).toNatClampNeg ((fI (fI (fI (fI M 44 0 432 0) 45 0 5 0) 46 0 144 0) 47 0 720 0).1 114 0).toNatClampNeg (-9)) 53 (0 : Int32).toNatClampNeg ((fI (fI (fI (fI (fI M 44 0 432 0) 45 0 5 0) 46 0 144 0) 47 0 720 0) 51 (0 : Int32).toNatClampNeg ((fI (fI (fI (fI M 44 0 432 0) 45 0 5 0) 46 0 144 0) 47 0 720 0).1 114 0).toNatClampNeg (-9)).1 114 0).toNatClampNeg (-9))))
def f_X1_meetWriters_16  : Nat → Int32 → Int32 → Int32 → Int32 → Mem → Option Mem
  | 0, _, _, _, _, _ => none
  | n16 + 1, x2, x3, x4, x5, M => if 400 ≤ x5 then some M
      else if x4 < 0 then some M
        else bm (f_X1_addNeed M x4 x2 x3) (fun M6 => ck x4 400 (f_X1_meetWriters_16 n16 x2 x3 (M6.1 52 x4.toNatClampNeg) (x5 + 1) M6))
def f_X1_meetWriters (M : Mem) (x1 : Int32) (x2 : Int32) (x3 : Int32) : Option Mem :=
  if 0 ≤ x1 then ck x1 1200 (f_X1_meetWriters_16 100000 x2 x3 (M.1 51 x1.toNatClampNeg) 0 M)
  else some M
def f_X1_meetReaders_15  : Nat → Int32 → Int32 → Int32 → Mem → Option Mem
  | 0, _, _, _, _ => none
  | n15 + 1, x2, x3, x4, M => if 400 ≤ x4 then some M
      else if x3 < 0 then some M
        else nzI 2 (bm (f_X1_addNeed M (x3 / 2) x2 1) (fun M7 => ck x3 800 (f_X1_meetReaders_15 n15 x2 (M7.1 54 x3.toNatClampNeg) (x4 + 1) M7)))
def f_X1_meetReaders (M : Mem) (x1 : Int32) (x2 : Int32) : Option Mem :=
  if 0 ≤ x1 then ck x1 1200 (f_X1_meetReaders_15 100000 x2 (M.1 53 x1.toNatClampNeg) 0 M)
  else some M
def f_X1_link_35  (x1 : Int32) (M : Mem) : Option Mem :=
  ck ((x1 * 3) + 1) 1200 (ck ((x1 * 3) + 2) 1200 (bm (f_X1_linkReader M (M.1 41 ((x1 * 3) + 1).toNatClampNeg) (x1 * 2)) (fun M9 => if (M.1 41 ((x1 * 3) + 2).toNatClampNeg) = (M.1 41 ((x1 * 3) + 1).toNatClampNeg) then some M9
    else bm (f_X1_linkReader M9 (M.1 41 ((x1 * 3) + 2).toNatClampNeg) ((x1 * 2) + 1)) (fun M13 => some M13))))
def f_X1_link (M : Mem) (x1 : Int32) : Option Mem :=
  ck (x1 * 3) 1200 (if (M.1 41 (x1 * 3).toNatClampNeg) < 0 then f_X1_link_35 x1 M
  else ck (M.1 41 (x1 * 3).toNatClampNeg) 1200 (ck x1 400 (ck (M.1 41 (x1 * 3).toNatClampNeg) 1200 (f_X1_link_35 x1 (sI (sI M 52 x1.toNatClampNeg (M.1 51 (M.1 41 (x1 * 3).toNatClampNeg).toNatClampNeg)) 51 (M.1 41 (x1 * 3).toNatClampNeg).toNatClampNeg x1)))))
def f_X1_isCarriedBy_26 (k12 : Int32 → Int32 → Int32 → Mem → Option Bool) : Nat → Int32 → Int32 → Int32 → Int32 → Mem → Option Bool
  | 0, _, _, _, _, _ => none
  | n26 + 1, x1, x2, x3, x4, M => if (M.1 107 0) ≤ x4 then k12 x1 x2 (x3 + 1) M
          else ck ((((x3 * 12) + x4) * 5) + x2) 720 (if (M.1 47 ((((x3 * 12) + x4) * 5) + x2).toNatClampNeg) ≤ 0 then f_X1_isCarriedBy_26 k12 n26 x1 x2 x3 (x4 + 1) M
            else bq (f_X2_stands M x3 x1) (fun r6 => if r6 = true then bq (f_X2_stands M x4 x1) (fun r10 => if r10 = true then some true
                else f_X1_isCarriedBy_26 k12 n26 x1 x2 x3 (x4 + 1) M)
              else f_X1_isCarriedBy_26 k12 n26 x1 x2 x3 (x4 + 1) M))
def f_X1_isCarriedBy_12  : Nat → Int32 → Int32 → Int32 → Mem → Option Bool
  | 0, _, _, _, _ => none
  | n12 + 1, x1, x2, x3, M => if (M.1 107 0) ≤ x3 then some false
      else f_X1_isCarriedBy_26 (f_X1_isCarriedBy_12 n12) 100000 x1 x2 x3 0 M
def f_X1_isCarriedBy (M : Mem) (x1 : Int32) : Option Bool :=
  ck x1 40 (f_X1_isCarriedBy_12 100000 x1 (M.1 11 x1.toNatClampNeg) 0 M)
def f_X2_add_122  (x5 : Int32) (M : Mem) : Option (Int32 × Mem) :=
  some (x5, sI M 106 0 ((M.1 106 0) + 1))
def f_X2_add_73  (x2 : Int32) (x5 : Int32) (s1 : Int32) (s2 : Int32) (M : Mem) : Option (Int32 × Mem) :=
  bm (f_X2_hang M s1 s2) (fun M14 => ck x5 40 (if x2 = 3 then ck ((sI M14 17 x5.toNatClampNeg (-9)).1 107 0) 12 (ck x5 40 (f_X2_add_122 x5 (sI (sI (sI (sI M14 17 x5.toNatClampNeg (-9)) 16 ((sI M14 17 x5.toNatClampNeg (-9)).1 107 0).toNatClampNeg x5) 17 x5.toNatClampNeg ((sI (sI M14 17 x5.toNatClampNeg (-9)) 16 ((sI M14 17 x5.toNatClampNeg (-9)).1 107 0).toNatClampNeg x5).1 107 0)) 107 0 (((sI (sI (sI M14 17 x5.toNatClampNeg (-9)) 16 ((sI M14 17 x5.toNatClampNeg (-9)).1 107 0).toNatClampNeg x5) 17 x5.toNatClampNeg ((sI (sI M14 17 x5.toNatClampNeg (-9)) 16 ((sI M14 17 x5.toNatClampNeg (-9)).1 107 0).toNatClampNeg x5).1 107 0)).1 107 0) + 1))))
    else f_X2_add_122 x5 (sI M14 17 x5.toNatClampNeg (-9))))
def f_X2_add (M : Mem) (x1 : Int32) (x2 : Int32) (x3 : Int32) (x4 : Int32) : Option (Int32 × Mem) :=
  ck (M.1 106 0) 40 (ck (M.1 106 0) 40 (bq (f_X2_loopsIn (sI (sI M 9 (M.1 106 0).toNatClampNeg x2) 10 (M.1 106 0).toNatClampNeg x1) x1) (fun r3 => ck (M.1 106 0) 40 (ck (M.1 106 0) 40 (ck (M.1 106 0) 40 (bm (f_X2_inherit (sI (sI (sI (sI (sI M 9 (M.1 106 0).toNatClampNeg x2) 10 (M.1 106 0).toNatClampNeg x1) 11 (M.1 106 0).toNatClampNeg r3) 12 (M.1 106 0).toNatClampNeg x3) 13 (M.1 106 0).toNatClampNeg x4) (M.1 106 0) x1) (fun M10 => if x1 = (-9) then f_X2_add_73 x2 (M.1 106 0) (M.1 106 0) 40 M10
  else f_X2_add_73 x2 (M.1 106 0) (M.1 106 0) x1 M10)))))))
def f_X3_setAside (M : Mem) : Option Mem :=
  bm (f_X7_take_an M (M.1 107 0)) (fun M2 => some M2)
def f_X3_takeAside (M : Mem) : Option Mem :=
  bm (f_X7_take_na M (M.1 107 0)) (fun M2 => some M2)
def f_X3_swapRows_79 (k13 : Int32 → Int32 → Int32 → Int32 → Mem → Option Mem) : Nat → Int32 → Int32 → Int32 → Int32 → Int32 → Int32 → Int32 → Mem → Option Mem
  | 0, _, _, _, _, _, _, _, _ => none
  | n79 + 1, x1, x2, x3, x4, x5, x6, x7, M => if 5 < x7 then k13 x1 x2 x3 (x4 + 1) M
          else ck (x5 + x7) 1344 (ck (x6 + x7) 1344 (ck (x5 + x7) 1344 (ck (x6 + x7) 1344 (f_X3_swapRows_79 k13 n79 x1 x2 x3 x4 x5 x6 (x7 + 1) (sI (sI M 28 (x5 + x7).toNatClampNeg (M.1 28 (x6 + x7).toNatClampNeg)) 28 (x6 + x7).toNatClampNeg (M.1 28 (x5 + x7).toNatClampNeg))))))
def f_X3_swapRows_13  : Nat → Int32 → Int32 → Int32 → Int32 → Mem → Option Mem
  | 0, _, _, _, _, _ => none
  | n13 + 1, x1, x2, x3, x4, M => if (M.1 107 0) ≤ x4 then some M
      else bq (f_X3_reaches M x4 x1 x2) (fun r3 => if r3 = true then bq (f_X7_loopRow M x4 x3) (fun r7 => bq (f_X7_loopRow M x4 x2) (fun r10 => if r7 < 0 then f_X3_swapRows_13 n13 x1 x2 x3 (x4 + 1) M
          else if 0 ≤ r10 then f_X3_swapRows_79 (f_X3_swapRows_13 n13) 100000 x1 x2 x3 x4 r7 r10 0 M
            else f_X3_swapRows_13 n13 x1 x2 x3 (x4 + 1) M))
        else f_X3_swapRows_13 n13 x1 x2 x3 (x4 + 1) M)
def f_X3_swapRows (M : Mem) (x1 : Int32) (x2 : Int32) : Option Mem :=
  ck x1 40 (f_X3_swapRows_13 100000 x1 x2 (M.1 11 x1.toNatClampNeg) 0 M)
def f_X3_leanRows_81 (k14 : Int32 → Int32 → Int32 → Int32 → Int32 → Mem → Option Mem) : Nat → Int32 → Int32 → Int32 → Int32 → Int32 → Int32 → Int32 → Int32 → Mem → Option Mem
  | 0, _, _, _, _, _, _, _, _, _ => none
  | n81 + 1, x1, x2, x3, x4, x5, x6, x7, x8, M => if 5 ≤ x8 then k14 x1 x2 x3 x4 (x5 + 1) M
          else ck (x6 + x8) 1344 (ck (x7 + x8) 1344 (ck (x6 + x8) 1344 (f_X3_leanRows_81 k14 n81 x1 x2 x3 x4 x5 x6 x7 (x8 + 1) (sI M 28 (x6 + x8).toNatClampNeg ((M.1 28 (x6 + x8).toNatClampNeg) + (x3 * (M.1 28 (x7 + x8).toNatClampNeg)))))))
def f_X3_leanRows_14  : Nat → Int32 → Int32 → Int32 → Int32 → Int32 → Mem → Option Mem
  | 0, _, _, _, _, _, _ => none
  | n14 + 1, x1, x2, x3, x4, x5, M => if (M.1 107 0) ≤ x5 then some M
      else bq (f_X3_reaches M x5 x1 x2) (fun r3 => if r3 = true then bq (f_X7_loopRow M x5 x4) (fun r7 => bq (f_X7_loopRow M x5 x2) (fun r10 => if r7 < 0 then f_X3_leanRows_14 n14 x1 x2 x3 x4 (x5 + 1) M
          else if 0 ≤ r10 then f_X3_leanRows_81 (f_X3_leanRows_14 n14) 100000 x1 x2 x3 x4 x5 r7 r10 0 M
            else f_X3_leanRows_14 n14 x1 x2 x3 x4 (x5 + 1) M))
        else f_X3_leanRows_14 n14 x1 x2 x3 x4 (x5 + 1) M)
def f_X3_leanRows (M : Mem) (x1 : Int32) (x2 : Int32) (x3 : Int32) : Option Mem :=
  ck x1 40 (f_X3_leanRows_14 100000 x1 x2 x3 (M.1 11 x1.toNatClampNeg) 0 M)
def f_X3_turnSigns_60 (k12 : Int32 → Int32 → Int32 → Mem → Option Mem) : Nat → Int32 → Int32 → Int32 → Int32 → Int32 → Mem → Option Mem
  | 0, _, _, _, _, _, _ => none
  | n60 + 1, x1, x2, x3, x4, x5, M => if 5 ≤ x5 then k12 x1 x2 (x3 + 1) M
          else ck (x4 + x5) 1344 (ck (x4 + x5) 1344 (f_X3_turnSigns_60 k12 n60 x1 x2 x3 x4 (x5 + 1) (sI M 28 (x4 + x5).toNatClampNeg (-(M.1 28 (x4 + x5).toNatClampNeg)))))
def f_X3_turnSigns_12  : Nat → Int32 → Int32 → Int32 → Mem → Option Mem
  | 0, _, _, _, _ => none
  | n12 + 1, x1, x2, x3, M => if (M.1 107 0) ≤ x3 then some M
      else bq (f_X2_stands M x3 x1) (fun r3 => if r3 = true then bq (f_X7_loopRow M x3 x2) (fun r7 => if 0 ≤ r7 then f_X3_turnSigns_60 (f_X3_turnSigns_12 n12) 100000 x1 x2 x3 r7 0 M
          else f_X3_turnSigns_12 n12 x1 x2 (x3 + 1) M)
        else f_X3_turnSigns_12 n12 x1 x2 (x3 + 1) M)
def f_X3_turnSigns (M : Mem) (x1 : Int32) : Option Mem :=
  ck x1 40 (f_X3_turnSigns_12 100000 x1 (M.1 11 x1.toNatClampNeg) 0 M)
def f_X3_tileFits_67 (k14 : Int32 → Int32 → Int32 → Int32 → Int32 → Mem → Option Bool) : Nat → Int32 → Int32 → Int32 → Int32 → Int32 → Int32 → Mem → Option Bool
  | 0, _, _, _, _, _, _, _ => none
  | n67 + 1, x1, x2, x3, x4, x5, x6, M => if x2 ≤ x6 then k14 x1 x2 x3 x4 (x5 + 1) M
          else bq (f_X7_loopRow M x5 (x4 + x6)) (fun r10 => if r10 < 0 then f_X3_tileFits_67 k14 n67 x1 x2 x3 x4 x5 (x6 + 1) M
            else ck (r10 + 5) 1344 (if ((M.1 28 (r10 + 5).toNatClampNeg) * x3) ≤ 400 then f_X3_tileFits_67 k14 n67 x1 x2 x3 x4 x5 (x6 + 1) M
              else some false))
def f_X3_tileFits_14  : Nat → Int32 → Int32 → Int32 → Int32 → Int32 → Mem → Option Bool
  | 0, _, _, _, _, _, _ => none
  | n14 + 1, x1, x2, x3, x4, x5, M => if (M.1 107 0) ≤ x5 then some true
      else bq (f_X3_reaches M x5 x1 ((x4 + x2) - 1)) (fun r3 => if r3 = true then ck x5 12 (if ((M.1 29 x5.toNatClampNeg) + x2) ≤ 16 then f_X3_tileFits_67 (f_X3_tileFits_14 n14) 100000 x1 x2 x3 x4 x5 0 M
          else some false)
        else f_X3_tileFits_14 n14 x1 x2 x3 x4 (x5 + 1) M)
def f_X3_tileFits (M : Mem) (x1 : Int32) (x2 : Int32) (x3 : Int32) : Option Bool :=
  ck x1 40 (f_X3_tileFits_14 100000 x1 x2 x3 (M.1 11 x1.toNatClampNeg) 0 M)
def f_X3_widen (M : Mem) (x1 : Int32) (x2 : Int32) (x3 : Int32) (x4 : Int32) : Option Mem :=
  bq (f_X7_loopRow M x1 x2) (fun r1 => if 0 ≤ r1 then ca r1 x3 5 1344 1344 (ck (r1 + 5) 1344 (ck (x3 + 5) 1344 (some (sI (yI M 28 r1.toNatClampNeg 28 x3.toNatClampNeg (5 : Int32).toNatClampNeg) 28 (x3 + 5).toNatClampNeg (((yI M 28 r1.toNatClampNeg 28 x3.toNatClampNeg (5 : Int32).toNatClampNeg).1 28 (r1 + 5).toNatClampNeg) * x4)))))
  else some M)
def f_X3_partRows_12  : Nat → Int32 → Int32 → Int32 → Mem → Option Mem
  | 0, _, _, _, _ => none
  | n12 + 1, x1, x2, x3, M => if (M.1 107 0) ≤ x3 then some M
      else bq (f_X2_stands M x3 x1) (fun r3 => if r3 = true then bq (f_X7_rowAhead M x3 x2) (fun r7 => if r7 < 0 then f_X3_partRows_12 n12 x1 x2 (x3 + 1) M
          else bq (f_X3_parted M x3 x2 r7) (fun r11 => ck r7 1344 (f_X3_partRows_12 n12 x1 x2 (x3 + 1) (sI M 28 r7.toNatClampNeg r11))))
        else f_X3_partRows_12 n12 x1 x2 (x3 + 1) M)
def f_X3_partRows (M : Mem) (x1 : Int32) : Option Mem :=
  ck x1 40 (f_X3_partRows_12 100000 x1 (M.1 11 x1.toNatClampNeg) 0 M)
def f_X3_joinRows_42  : Nat → Int32 → Int32 → Int32 → Int32 → Mem → Option Mem
  | 0, _, _, _, _, _ => none
  | n42 + 1, x2, x3, x5, x6, M => if (M.1 107 0) ≤ x6 then some M
      else bq (f_X2_stands M x6 x2) (fun r8 => if r8 = true then bq (f_X7_rowAhead M x6 x3) (fun r12 => if r12 < 0 then f_X3_joinRows_42 n42 x2 x3 x5 (x6 + 1) M
          else ck r12 1344 (f_X3_joinRows_42 n42 x2 x3 x5 (x6 + 1) (sI M 28 r12.toNatClampNeg x5)))
        else f_X3_joinRows_42 n42 x2 x3 x5 (x6 + 1) M)
def f_X3_joinRows (M : Mem) (x1 : Int32) (x2 : Int32) : Option Mem :=
  ck x2 40 (bq (f_X7_rowAhead M x1 (M.1 11 x2.toNatClampNeg)) (fun r2 => if 0 ≤ r2 then ck r2 1344 (f_X3_joinRows_42 100000 x2 (M.1 11 x2.toNatClampNeg) (M.1 28 r2.toNatClampNeg) 0 M)
  else some M))
def f_X7_addPlace (M : Mem) (x1 : Int32) (x2 : Int32) : Option Mem :=
  bd (f_X7_addRow M x1) (fun r1 M2 => ck r1 1344 (some (sI M2 28 r1.toNatClampNeg x2)))
def f_X7_addLetter (M : Mem) (x1 : Int32) (x2 : Int32) : Option Mem :=
  bd (f_X7_addRow M x1) (fun r1 M2 => ck ((r1 + 1) + x2) 1344 (ck (r1 + 6) 1344 (some (sI (sI M2 28 ((r1 + 1) + x2).toNatClampNeg 1) 28 (r1 + 6).toNatClampNeg x2))))
def f_X9_spotOf_105 (k20 : Int32 → Int32 → Int32 → Int32 → Mem → Option (Int32 × Mem)) (x1 : Int32) (x2 : Int32) (x3 : Int32) (x4 : Int32) (M : Mem) : Option (Int32 × Mem) :=
  k20 x1 x2 ((x3 + 1) &&& 2047) (x4 + 1) M
def f_X9_spotOf_119  (x1 : Int32) (x3 : Int32) (M : Mem) : Option (Int32 × Mem) :=
  ck x3 2048 (some ((((sI (sI M 42 x3.toNatClampNeg (x1 + 1)) 114 0 (((sI M 42 x3.toNatClampNeg (x1 + 1)).1 114 0) + 1)).1 114 0) - 1), sI (sI M 42 x3.toNatClampNeg (x1 + 1)) 114 0 (((sI M 42 x3.toNatClampNeg (x1 + 1)).1 114 0) + 1)))
def f_X9_spotOf_20  : Nat → Int32 → Int32 → Int32 → Int32 → Mem → Option (Int32 × Mem)
  | 0, _, _, _, _, _ => none
  | n20 + 1, x1, x2, x3, x4, M => if 2048 ≤ x4 then f_X9_spotOf_119 x1 x3 M
      else ck x3 2048 (if (M.1 42 x3.toNatClampNeg) = 0 then f_X9_spotOf_119 x1 x3 M
        else ck x3 2048 (ck ((M.1 42 x3.toNatClampNeg) - 1) 1200 (ck x1 1200 (if (M.2.1 39 ((M.1 42 x3.toNatClampNeg) - 1).toNatClampNeg) = (M.2.1 39 x1.toNatClampNeg) then ck ((M.1 42 x3.toNatClampNeg) - 1) 1200 (ck x1 1200 (if (M.2.1 40 ((M.1 42 x3.toNatClampNeg) - 1).toNatClampNeg) = (M.2.1 40 x1.toNatClampNeg) then nzI 3 (nzI 3 (bq (f_X9_arrayAt M (((M.1 42 x3.toNatClampNeg) - 1) / 3) (((M.1 42 x3.toNatClampNeg) - 1) - ((M.1 42 x3.toNatClampNeg) - 1) / 3 * 3)) (fun r18 => if r18 = x2 then ck ((M.1 42 x3.toNatClampNeg) - 1) 1200 (some ((M.1 41 ((M.1 42 x3.toNatClampNeg) - 1).toNatClampNeg), M))
              else f_X9_spotOf_105 (f_X9_spotOf_20 n20) x1 x2 x3 x4 M)))
            else f_X9_spotOf_105 (f_X9_spotOf_20 n20) x1 x2 x3 x4 M))
          else f_X9_spotOf_105 (f_X9_spotOf_20 n20) x1 x2 x3 x4 M))))
def f_X9_spotOf (M : Mem) (x1 : Int32) (x2 : Int32) : Option (Int32 × Mem) :=
  ck x1 1200 (ck x1 1200 (bq (f_X9_slotOf x2 (M.2.1 39 x1.toNatClampNeg) (M.2.1 40 x1.toNatClampNeg)) (fun r3 => f_X9_spotOf_20 100000 x1 x2 r3 0 M)))
def f_X10_merge_86 (k47 : Int32 → Int32 → Int32 → Int32 → Int32 → Mem → Option Mem) (x2 : Int32) (x3 : Int32) (x4 : Int32) (x5 : Int32) (x6 : Int32) (M : Mem) : Option Mem :=
  ck x4 400 (ck x6 400 (k47 x2 x3 (x4 + 1) x5 (x6 + 1) (sI M 57 x6.toNatClampNeg (M.1 58 x4.toNatClampNeg))))
def f_X10_merge_106 (k47 : Int32 → Int32 → Int32 → Int32 → Int32 → Mem → Option Mem) (x2 : Int32) (x3 : Int32) (x4 : Int32) (x5 : Int32) (x6 : Int32) (M : Mem) : Option Mem :=
  ck x5 400 (ck x6 400 (k47 x2 x3 x4 (x5 + 1) (x6 + 1) (sI M 57 x6.toNatClampNeg (M.1 58 x5.toNatClampNeg))))
def f_X10_merge_47  : Nat → Int32 → Int32 → Int32 → Int32 → Int32 → Mem → Option Mem
  | 0, _, _, _, _, _, _ => none
  | n47 + 1, x2, x3, x4, x5, x6, M => if x3 ≤ x6 then some M
      else if x3 ≤ x5 then f_X10_merge_86 (f_X10_merge_47 n47) x2 x3 x4 x5 x6 M
        else if x2 ≤ x4 then f_X10_merge_106 (f_X10_merge_47 n47) x2 x3 x4 x5 x6 M
          else ck x4 400 (ck x5 400 (bq (f_X10_isBehind M (M.1 58 x4.toNatClampNeg) (M.1 58 x5.toNatClampNeg)) (fun r13 => if r13 = true then f_X10_merge_106 (f_X10_merge_47 n47) x2 x3 x4 x5 x6 M
            else f_X10_merge_86 (f_X10_merge_47 n47) x2 x3 x4 x5 x6 M)))
def f_X10_merge (M : Mem) (x1 : Int32) (x2 : Int32) (x3 : Int32) : Option Mem :=
  ck (x2 - 1) 400 (ck x2 400 (bq (f_X10_isBehind M (M.1 57 (x2 - 1).toNatClampNeg) (M.1 57 x2.toNatClampNeg)) (fun r3 => if r3 = true then ca x1 x1 (x3 - x1) 400 400 (f_X10_merge_47 100000 x2 x3 x1 x2 x1 (yI M 57 x1.toNatClampNeg 58 x1.toNatClampNeg (x3 - x1).toNatClampNeg))
  else some M)))
def f_X10_isEarly (M : Mem) (x1 : Int32) : Option Bool :=
  ck (x1 * 3) 1200 (bq (f_X10_latestAt_t M (M.1 41 (x1 * 3).toNatClampNeg)) (fun r2 => ck x1 400 (if (M.1 59 x1.toNatClampNeg) < r2 then some true
  else ck ((x1 * 3) + 1) 1200 (bq (f_X10_latestAt_w M (M.1 41 ((x1 * 3) + 1).toNatClampNeg)) (fun r8 => ck x1 400 (if (M.1 59 x1.toNatClampNeg) < r8 then some true
    else ck ((x1 * 3) + 2) 1200 (bq (f_X10_latestAt_w M (M.1 41 ((x1 * 3) + 2).toNatClampNeg)) (fun r14 => ck x1 400 (if r14 ≤ (M.1 59 x1.toNatClampNeg) then some false
      else some true)))))))))
def f_X10_endOfLine_4  : Nat → Int32 → Int32 → Mem → Option Int32
  | 0, _, _, _ => none
  | n4 + 1, x1, x2, M => if (M.1 110 0) ≤ x2 then some x2
      else bq (f_X10_goesOn M x1 x2) (fun r2 => if r2 = true then f_X10_endOfLine_4 n4 x1 (x2 + 1) M
        else some x2)
def f_X10_endOfLine (M : Mem) (x1 : Int32) : Option Int32 :=
  f_X10_endOfLine_4 100000 x1 (x1 + 1) M
def f_X11_term (M : Mem) (x1 : Int32) (x2 : Int32) : Option (Int32 × Mem) :=
  bq (f_X11_within x1 0 7) (fun r1 => if r1 = true then bq (f_X11_within x2 (-1000) 1000) (fun r5 => if r5 = true then ck x1 8 (some (1, sI M 3 x1.toNatClampNeg x2))
    else some ((-1), M))
  else some ((-1), M))
def f_X11_node (M : Mem) (x1 : Int32) (x2 : Int32) : Option Int32 :=
  bq (f_X2_known M x1) (fun r1 => if r1 = true then bq (f_X11_within x2 0 4) (fun r5 => if r5 = true then bq (f_X2_tell M x1 x2) (fun r9 => some r9)
    else some (-1))
  else some (-1))
def f_X11_note (M : Mem) (x1 : Int32) (x2 : Int32) : Option (Int32 × Mem) :=
  bq (f_X2_known M x1) (fun r1 => if r1 = true then if x2 ≤ 12 then if 0 ≤ x2 then bm (f_X4_putNote M x1 x2) (fun M8 => some (x2, M8))
      else bd (f_X11_meet M 5) (fun r10 M11 => some (r10, M11))
    else some ((-1), M)
  else some ((-1), M))
def f_X11_held (M : Mem) (x1 : Int32) (x2 : Int32) : Option (Int32 × Mem) :=
  bq (f_X2_known M x1) (fun r1 => if r1 = true then bq (f_X11_within x2 0 3) (fun r5 => if r5 = true then bq (f_X4_isNote M x1) (fun r9 => if r9 = true then bd (f_X11_meet M 3) (fun r28 M29 => some (r28, M29))
      else bq (f_X4_isEmpty M x1) (fun r13 => if r13 = true then bd (f_X11_meet M 1) (fun r25 M26 => some (r25, M26))
        else ck x1 40 (bq (f_X2_isOfKind M (M.1 23 x1.toNatClampNeg) x2) (fun r18 => if r18 = true then some ((M.1 23 x1.toNatClampNeg), M)
          else bd (f_X11_meet M 3) (fun r22 M23 => some (r22, M23))))))
    else some ((-1), M))
  else some ((-1), M))
def f_X11_noted (M : Mem) (x1 : Int32) (x2 : Int32) (x3 : Int32) : Option (Int32 × Mem) :=
  bq (f_X2_known M x1) (fun r1 => if r1 = true then bq (f_X4_isEmpty M x1) (fun r5 => if r5 = true then bd (f_X11_meet M 1) (fun r27 M28 => some (r27, M28))
    else bq (f_X4_isNote M x1) (fun r9 => if r9 = true then ck x1 40 (bq (f_X11_within x2 0 ((M.1 23 x1.toNatClampNeg) - 1)) (fun r14 => if r14 = true then bd (f_X4_change M x1 x2 x3) (fun r18 M19 => some ((r18 + 1000), M19))
        else bd (f_X11_meet M 2) (fun r21 M22 => some (r21, M22))))
      else bd (f_X11_meet M 3) (fun r24 M25 => some (r24, M25))))
  else some ((-1), M))
def f_X11_copy_46   (M : Mem) : Option (Int32 × Mem) :=
  bd (f_X11_meet M 3) (fun r36 M37 => some (r36, M37))
def f_X11_copy_74   (M : Mem) : Option (Int32 × Mem) :=
  bd (f_X11_meet M 1) (fun r39 M40 => some (r39, M40))
def f_X11_copy_109   (M : Mem) : Option (Int32 × Mem) :=
  bd (f_X11_meet M 2) (fun r42 M43 => some (r42, M43))
def f_X11_copy (M : Mem) (x1 : Int32) (x2 : Int32) (x3 : Int32) (x4 : Int32) (x5 : Int32) : Option (Int32 × Mem) :=
  bq (f_X2_known M x1) (fun r1 => if r1 = true then bq (f_X2_known M x3) (fun r5 => if r5 = true then bq (f_X4_isNode M x1) (fun r9 => if r9 = true then f_X11_copy_46 M
      else bq (f_X4_isNode M x3) (fun r13 => if r13 = true then f_X11_copy_46 M
        else bq (f_X4_isEmpty M x1) (fun r17 => if r17 = true then f_X11_copy_74 M
          else bq (f_X4_isEmpty M x3) (fun r21 => if r21 = true then f_X11_copy_74 M
            else bq (f_X4_spans M x1 x2 x5) (fun r25 => if r25 = true then bq (f_X4_spans M x3 x4 x5) (fun r29 => if r29 = true then bm (f_X4_move M x1 x2 x3 x4 x5) (fun M34 => some (1, M34))
                else f_X11_copy_109 M)
              else f_X11_copy_109 M)))))
    else some ((-1), M))
  else some ((-1), M))
def f_X11_order (M : Mem) (x1 : Int32) (x2 : Int32) (x3 : Int32) : Option (Int32 × Mem) :=
  bq (f_X2_known M x1) (fun r1 => if r1 = true then bq (f_X11_within x3 0 6) (fun r5 => if r5 = true then bq (f_X2_isAct M x1) (fun r9 => if r9 = true then ck x1 40 (ck (M.1 17 x1.toNatClampNeg) 12 (bq (f_X11_within x2 0 ((M.1 29 (M.1 17 x1.toNatClampNeg).toNatClampNeg) - 1)) (fun r15 => if r15 = true then bq (f_X7_at M (M.1 17 x1.toNatClampNeg) x2) (fun r19 => ck (r19 + x3) 1344 (if 5 ≤ x3 then some ((M.1 28 (r19 + x3).toNatClampNeg), M)
          else some ((1000000 + (M.1 28 (r19 + x3).toNatClampNeg)), M)))
        else some ((-9), M))))
      else bd (f_X11_meet M 3) (fun r24 M25 => some (r24, M25)))
    else some ((-1), M))
  else some ((-1), M))
def f_X11_ended (M : Mem) (x1 : Int32) : Option Int32 :=
  bq (f_X11_within x1 0 5) (fun r1 => if r1 = true then if x1 = 0 then some ((M.1 103 0))
    else if x1 = 1 then some ((M.1 104 0))
      else if (M.1 104 0) = (-9) then some ((M.1 104 0))
        else ck (x1 - 2) 4 (some ((100000 + (M.2.1 68 (x1 - 2).toNatClampNeg)).toInt32))
  else some (-1))
def f_X11_findings (M : Mem) (x1 : Int32) : Option Int32 :=
  bq (f_X11_within x1 1 5) (fun r1 => if r1 = true then ck x1 6 (some ((M.1 67 x1.toNatClampNeg)))
  else some (-1))
def f_X11_programChanged (M : Mem) : Option Mem :=
  bm (f_X11_aimsChanged (sI M 113 0 (bI false))) (fun M2 => bm (f_X11_ordersChanged M2) (fun M5 => some M5))
def f_X11_makeChoice (M : Mem) (x1 : Int32) (x2 : Int32) : Option Mem :=
  if 0 < x2 then bq (f_X11_choicesOf M x1) (fun r2 => if x2 = (r2 - 1) then bm (f_X3_turnSigns M x1) (fun M11 => some M11)
    else ck x1 40 (bm (f_X3_swapRows M x1 ((M.1 11 x1.toNatClampNeg) + x2)) (fun M8 => some M8)))
  else some M
def f_X1_gather_62  (x1 : Int32) (x2 : Int32) (M : Mem) : Option Mem :=
  bm (f_X1_meetReaders M x2 x1) (fun M12 => bm (f_X1_meetWriters M12 x2 x1 2) (fun M15 => some M15))
def f_X1_gather (M : Mem) (x1 : Int32) : Option Mem :=
  ck (x1 * 3) 1200 (ck ((x1 * 3) + 1) 1200 (ck ((x1 * 3) + 2) 1200 (bm (f_X1_meetWriters M (M.1 41 ((x1 * 3) + 1).toNatClampNeg) x1 0) (fun M5 => if (M.1 41 ((x1 * 3) + 2).toNatClampNeg) = (M.1 41 ((x1 * 3) + 1).toNatClampNeg) then f_X1_gather_62 x1 (M.1 41 (x1 * 3).toNatClampNeg) M5
  else bm (f_X1_meetWriters M5 (M.1 41 ((x1 * 3) + 2).toNatClampNeg) x1 0) (fun M9 => f_X1_gather_62 x1 (M.1 41 (x1 * 3).toNatClampNeg) M9)))))
def f_X3_begin_48 (k7 : Int32 → Mem → Option Mem) : Nat → Int32 → Int32 → Int32 → Mem → Option Mem
  | 0, _, _, _, _ => none
  | n48 + 1, x1, x2, x3, M => if x2 ≤ x3 then bq (f_X2_placeOf M x1 x2) (fun r6 => bm (f_X7_addPlace M x1 r6) (fun M10 => k7 (x1 + 1) M10))
          else bq (f_X2_placeOf M x1 x3) (fun r12 => bm (f_X7_addPlace M x1 r12) (fun M16 => bm (f_X7_addLetter M16 x1 x3) (fun M19 => f_X3_begin_48 k7 n48 x1 x2 (x3 + 1) M19)))
def f_X3_begin_7  : Nat → Int32 → Mem → Option Mem
  | 0, _, _ => none
  | n7 + 1, x1, M => if (M.1 107 0) ≤ x1 then some M
      else ck x1 12 (ck x1 12 (ck ((sI M 29 x1.toNatClampNeg 0).1 16 x1.toNatClampNeg) 40 (f_X3_begin_48 (f_X3_begin_7 n7) 100000 x1 ((sI M 29 x1.toNatClampNeg 0).1 11 ((sI M 29 x1.toNatClampNeg 0).1 16 x1.toNatClampNeg).toNatClampNeg) 0 (sI M 29 x1.toNatClampNeg 0))))
def f_X3_begin (M : Mem) : Option Mem :=
  f_X3_begin_7 100000 0 (sI M 109 0 0)
def f_X3_tileRows_117 (k14 : Int32 → Int32 → Int32 → Int32 → Int32 → Mem → Option Mem) : Nat → Int32 → Int32 → Int32 → Int32 → Int32 → Int32 → Int32 → Mem → Option Mem
  | 0, _, _, _, _, _, _, _, _ => none
  | n117 + 1, x1, x2, x3, x4, x5, x6, x7, M => if x2 ≤ x7 then k14 x1 x2 x3 x4 (x5 + 1) M
              else bm (f_X3_widen M x5 (x4 + x7) (x6 + (x7 * 7)) x3) (fun M18 => f_X3_tileRows_117 k14 n117 x1 x2 x3 x4 x5 x6 (x7 + 1) M18)
def f_X3_tileRows_81 (k14 : Int32 → Int32 → Int32 → Int32 → Int32 → Mem → Option Mem) : Nat → Int32 → Int32 → Int32 → Int32 → Int32 → Int32 → Int32 → Mem → Option Mem
  | 0, _, _, _, _, _, _, _, _ => none
  | n81 + 1, x1, x2, x3, x4, x5, x6, x7, M => if x2 ≤ x7 then f_X3_tileRows_117 k14 100000 x1 x2 x3 x4 x5 x6 0 M
          else ck ((x6 + (x7 * 7)) + 6) 1344 (f_X3_tileRows_81 k14 n81 x1 x2 x3 x4 x5 x6 (x7 + 1) (sI M 28 ((x6 + (x7 * 7)) + 6).toNatClampNeg (-9)))
def f_X3_tileRows_14  : Nat → Int32 → Int32 → Int32 → Int32 → Int32 → Mem → Option Mem
  | 0, _, _, _, _, _, _ => none
  | n14 + 1, x1, x2, x3, x4, x5, M => if (M.1 107 0) ≤ x5 then some M
      else bq (f_X3_reaches M x5 x1 ((x4 + x2) - 1)) (fun r3 => if r3 = true then bq (f_X7_loopRow M x5 x4) (fun r7 => if 0 ≤ r7 then bm (f_X7_openRows M x5 r7 x2) (fun M12 => f_X3_tileRows_81 (f_X3_tileRows_14 n14) 100000 x1 x2 x3 x4 x5 r7 0 M12)
          else f_X3_tileRows_14 n14 x1 x2 x3 x4 (x5 + 1) M)
        else f_X3_tileRows_14 n14 x1 x2 x3 x4 (x5 + 1) M)
def f_X3_tileRows (M : Mem) (x1 : Int32) (x2 : Int32) (x3 : Int32) : Option Mem :=
  ck x1 40 (f_X3_tileRows_14 100000 x1 x2 x3 (M.1 11 x1.toNatClampNeg) 0 M)
def f_X9_reckonTouch (M : Mem) (x1 : Int32) (x2 : Int32) : Option Mem :=
  ck x1 400 (ck ((x1 * 3) + x2) 1200 (ck (((M.1 35 x1.toNatClampNeg) * 3) + x2) 36 (if 0 ≤ ((sI M 41 ((x1 * 3) + x2).toNatClampNeg (-9)).1 18 (((M.1 35 x1.toNatClampNeg) * 3) + x2).toNatClampNeg) then ck (((M.1 35 x1.toNatClampNeg) * 3) + x2) 36 (bq (f_X8_reckon_l (sI M 41 ((x1 * 3) + x2).toNatClampNeg (-9)) ((sI M 41 ((x1 * 3) + x2).toNatClampNeg (-9)).1 19 (((M.1 35 x1.toNatClampNeg) * 3) + x2).toNatClampNeg) (x1 * 4)) (fun r6 => ck ((x1 * 3) + x2) 1200 (ck (((M.1 35 x1.toNatClampNeg) * 3) + x2) 36 (bq (f_X8_reckon_l (sL (sI M 41 ((x1 * 3) + x2).toNatClampNeg (-9)) 39 ((x1 * 3) + x2).toNatClampNeg r6) ((sL (sI M 41 ((x1 * 3) + x2).toNatClampNeg (-9)) 39 ((x1 * 3) + x2).toNatClampNeg r6).1 20 (((M.1 35 x1.toNatClampNeg) * 3) + x2).toNatClampNeg) (x1 * 4)) (fun r11 => ck ((x1 * 3) + x2) 1200 (ck (((M.1 35 x1.toNatClampNeg) * 3) + x2) 36 (bd (f_X9_spotOf (sL (sL (sI M 41 ((x1 * 3) + x2).toNatClampNeg (-9)) 39 ((x1 * 3) + x2).toNatClampNeg r6) 40 ((x1 * 3) + x2).toNatClampNeg r11) ((x1 * 3) + x2) ((sL (sL (sI M 41 ((x1 * 3) + x2).toNatClampNeg (-9)) 39 ((x1 * 3) + x2).toNatClampNeg r6) 40 ((x1 * 3) + x2).toNatClampNeg r11).1 18 (((M.1 35 x1.toNatClampNeg) * 3) + x2).toNatClampNeg)) (fun r16 M17 => ck ((x1 * 3) + x2) 1200 (some (sI M17 41 ((x1 * 3) + x2).toNatClampNeg r16))))))))))
  else some (sI M 41 ((x1 * 3) + x2).toNatClampNeg (-9)))))
def f_X10_arrange_54 (k41 : Int32 → Mem → Option Mem) : Nat → Int32 → Int32 → Mem → Option Mem
  | 0, _, _, _ => none
  | n54 + 1, x1, x2, M => if (M.1 110 0) ≤ (x2 + x1) then k41 (x1 * 2) M
              else bq (f_J9_min_7cf53 (x2 + (2 * x1)) (M.1 110 0)) (fun r9 => bm (f_X10_merge M x2 (x2 + x1) r9) (fun M13 => f_X10_arrange_54 k41 n54 x1 (x2 + (2 * x1)) M13))
def f_X10_arrange_108  : Nat → Int32 → Mem → Option Mem
  | 0, _, _ => none
  | n108 + 1, x1, M => if (M.1 110 0) ≤ x1 then some (sI M 117 0 (bI true))
              else ck x1 400 (ck (M.1 57 x1.toNatClampNeg) 400 (f_X10_arrange_108 n108 (x1 + 1) (sI M 59 (M.1 57 x1.toNatClampNeg).toNatClampNeg x1)))
def f_X10_arrange_41  : Nat → Int32 → Mem → Option Mem
  | 0, _, _ => none
  | n41 + 1, x1, M => if (M.1 110 0) ≤ x1 then f_X10_arrange_108 100000 0 M
          else f_X10_arrange_54 (f_X10_arrange_41 n41) 100000 x1 0 M
def f_X10_arrange_10  : Nat → Int32 → Mem → Option Mem
  | 0, _, _ => none
  | n10 + 1, x1, M => if (M.1 110 0) ≤ x1 then f_X10_arrange_41 100000 1 M
      else bm (f_X10_reckonTimes M x1) (fun M4 => ck x1 400 (f_X10_arrange_10 n10 (x1 + 1) (sI M4 57 x1.toNatClampNeg x1)))
def f_X10_arrange (M : Mem) : Option Mem :=
  if (zb (M.1 117 0)) = true then some M
  else f_X10_arrange_10 100000 0 M
def f_X10_partLines_71   (M : Mem) : Option Mem :=
  ck (M.1 122 0) 401 (some (sI (sI M 62 (M.1 122 0).toNatClampNeg (M.1 110 0)) 123 0 (bI true)))
def f_X10_partLines_21  : Nat → Int32 → Int32 → Mem → Option Mem
  | 0, _, _, _ => none
  | n21 + 1, x1, x2, M => if 400 ≤ x2 then f_X10_partLines_71 M
      else if (M.1 110 0) ≤ x1 then f_X10_partLines_71 M
        else ck (M.1 122 0) 401 (bq (f_X10_endOfLine (sI (sI M 62 (M.1 122 0).toNatClampNeg x1) 122 0 (((sI M 62 (M.1 122 0).toNatClampNeg x1).1 122 0) + 1)) x1) (fun r8 => f_X10_partLines_21 n21 r8 (x2 + 1) (sI (sI M 62 (M.1 122 0).toNatClampNeg x1) 122 0 (((sI M 62 (M.1 122 0).toNatClampNeg x1).1 122 0) + 1))))
def f_X10_partLines (M : Mem) : Option Mem :=
  if (zb (M.1 123 0)) = true then some M
  else bm (f_X10_arrange M) (fun M3 => f_X10_partLines_21 100000 0 0 (sI M3 122 0 0))
def f_X11_size (M : Mem) (x1 : Int32) (x2 : Int32) : Option (Int32 × Mem) :=
  bq (f_X11_within x1 0 2) (fun r1 => if r1 = true then bq (f_X11_within x2 (-400) 400) (fun r5 => if r5 = true then ck x1 3 (ck x1 3 (if (M.1 2 x1.toNatClampNeg) = x2 then some ((M.1 2 x1.toNatClampNeg), sI M 2 x1.toNatClampNeg x2)
      else bm (f_X11_programChanged (sI M 2 x1.toNatClampNeg x2)) (fun M13 => some ((M.1 2 x1.toNatClampNeg), M13))))
    else some ((-1000), M))
  else some ((-1000), M))
def f_X11_grow (M : Mem) (x1 : Int32) (x2 : Int32) (x3 : Int32) (x4 : Int32) : Option (Int32 × Mem) :=
  if (M.1 106 0) < 40 then bd (f_X2_add M x1 x2 x3 x4) (fun r2 M3 => bm (f_X3_begin M3) (fun M6 => bm (f_X11_programChanged M6) (fun M9 => some (r2, M9))))
  else some ((-2), M)
def f_X11_visitAt (M : Mem) (x1 : Int32) (x2 : Bool) : Option (Int32 × Mem) :=
  if x2 = true then bm (f_X10_arrange M) (fun M3 => ck x1 400 (some ((M3.1 57 x1.toNatClampNeg), M3)))
  else some (x1, M)
def f_X9_refresh_36 (k23 : Int32 → Mem → Option Mem) : Nat → Int32 → Int32 → Mem → Option Mem
  | 0, _, _, _ => none
  | n36 + 1, x1, x2, M => if 3 ≤ x2 then k23 (x1 + 1) M
          else bm (f_X9_reckonTouch M x1 x2) (fun M5 => f_X9_refresh_36 k23 n36 x1 (x2 + 1) M5)
def f_X9_refresh_23  : Nat → Int32 → Mem → Option Mem
  | 0, _, _ => none
  | n23 + 1, x1, M => if (M.1 110 0) ≤ x1 then some (sI M 115 0 (bI true))
      else f_X9_refresh_36 (f_X9_refresh_23 n23) 100000 x1 0 M
def f_X9_refresh (M : Mem) : Option Mem :=
  if (zb (M.1 115 0)) = true then some M
  else f_X9_refresh_23 100000 0 (fI (sI M 114 0 0) 42 0 2048 0)
def f_X10_isAllowed_133   (M : Mem) : Option (Bool × Mem) :=
  if 0 ≤ ((sI M 121 0 (bI true)).1 119 0) then some (false, sI M 121 0 (bI true))
          else some (true, sI M 121 0 (bI true))
def f_X10_isAllowed_118   (M : Mem) : Option (Bool × Mem) :=
  if (M.1 119 0) < 0 then f_X10_isAllowed_133 M
        else bm (f_X10_findPartner M (M.1 119 0)) (fun M22 => f_X10_isAllowed_133 M22)
def f_X10_isAllowed_73  : Nat → Int32 → Mem → Option (Bool × Mem)
  | 0, _, _ => none
  | n73 + 1, x1, M => if (M.1 110 0) ≤ x1 then f_X10_isAllowed_118 M
      else if 0 ≤ (M.1 119 0) then f_X10_isAllowed_118 M
        else bq (f_X10_isEarly M x1) (fun r13 => if r13 = true then f_X10_isAllowed_73 n73 (x1 + 1) (sI M 119 0 x1)
          else bm (f_X10_remember M x1) (fun M18 => f_X10_isAllowed_73 n73 (x1 + 1) M18))
def f_X10_isAllowed (M : Mem) : Option (Bool × Mem) :=
  if (zb (M.1 121 0)) = true then if 0 ≤ (M.1 119 0) then some (false, M)
    else some (true, M)
  else bm (f_X10_arrange M) (fun M3 => bm (f_X9_refresh M3) (fun M6 => cf 0 ((sI M6 119 0 (-9)).1 114 0) 1200 (cf 0 ((fI (sI M6 119 0 (-9)) 60 (0 : Int32).toNatClampNeg ((sI M6 119 0 (-9)).1 114 0).toNatClampNeg (-9)).1 114 0) 1200 (f_X10_isAllowed_73 100000 0 (fI (fI (sI M6 119 0 (-9)) 60 (0 : Int32).toNatClampNeg ((sI M6 119 0 (-9)).1 114 0).toNatClampNeg (-9)) 61 (0 : Int32).toNatClampNeg ((fI (sI M6 119 0 (-9)) 60 (0 : Int32).toNatClampNeg ((sI M6 119 0 (-9)).1 114 0).toNatClampNeg (-9)).1 114 0).toNatClampNeg (-9))))))
def f_X11_loop_69  (x2 : Int32) (x3 : Int32) (s1 : Int32) (s2 : Bool) (M : Mem) : Option (Int32 × Mem) :=
  bd (f_X11_grow M s1 (bI s2) x2 x3) (fun r18 M19 => some (r18, M19))
def f_X11_loop (M : Mem) (x1 : Int32) (x2 : Int32) (x3 : Int32) (x4 : Bool) : Option (Int32 × Mem) :=
  bq (f_X2_opens M x1) (fun r1 => if r1 = true then bq (f_X2_loopsIn M x1) (fun r5 => if 4 ≤ r5 then some ((-1), M)
    else bq (f_X8_fits M x2 r5) (fun r9 => if r9 = true then bq (f_X8_fits M x3 r5) (fun r13 => if r13 = true then if x4 = true then f_X11_loop_69 x2 x3 x1 true M
          else f_X11_loop_69 x2 x3 x1 false M
        else some ((-1), M))
      else some ((-1), M)))
  else some ((-1), M))
def f_X11_test (M : Mem) (x1 : Int32) (x2 : Int32) (x3 : Int32) : Option (Int32 × Mem) :=
  bq (f_X2_opens M x1) (fun r1 => if r1 = true then bq (f_X11_within x3 0 1000) (fun r5 => if r5 = true then bq (f_X2_loopsIn M x1) (fun r9 => bq (f_X8_fits M x2 r9) (fun r12 => if r12 = true then bd (f_X11_grow M x1 2 x2 x3) (fun r16 M17 => some (r16, M17))
      else some ((-1), M)))
    else some ((-1), M))
  else some ((-1), M))
def f_X11_act (M : Mem) (x1 : Int32) (x2 : Int32) (x3 : Int32) : Option (Int32 × Mem) :=
  bq (f_X2_opens M x1) (fun r1 => if r1 = true then bq (f_X11_within x2 0 5) (fun r5 => if r5 = true then if (M.1 107 0) < 12 then bd (f_X11_grow M x1 3 x2 x3) (fun r10 M11 => some (r10, M11))
      else some ((-2), M)
    else some ((-1), M))
  else some ((-1), M))
def f_X11_countFetched_27  : Nat → Int32 → Int32 → Int32 → Mem → Option (Int32 × Mem)
  | 0, _, _, _, _ => none
  | n27 + 1, x2, x3, x4, M => if (M.1 110 0) ≤ x4 then some (x3, M)
      else ck x4 400 (bd (f_X11_fetchBy M (M.1 57 x4.toNatClampNeg) 1 x2) (fun r12 M13 => bd (f_X11_fetchBy M13 (M.1 57 x4.toNatClampNeg) 2 x2) (fun r15 M16 => bd (f_X11_fetchBy M16 (M.1 57 x4.toNatClampNeg) 0 x2) (fun r18 M19 => f_X11_countFetched_27 n27 x2 (x3 + ((r12 + r15) + r18)) (x4 + 1) M19))))
def f_X11_countFetched (M : Mem) (x1 : Int32) (x2 : Int32) : Option (Int32 × Mem) :=
  bm (f_X9_refresh M) (fun M2 => bm (f_X10_arrange M2) (fun M5 => bm (f_X6_clear M5 x1) (fun M8 => f_X11_countFetched_27 100000 x2 0 0 M8)))
def f_X11_tryChoice_39  (s0 : Int32) (M : Mem) : Option (Int32 × Mem) :=
  bm (f_X3_takeAside M) (fun M18 => some (s0, M18))
def f_X11_tryChoice (M : Mem) (x1 : Int32) (x2 : Int32) (x3 : Int32) (x4 : Int32) : Option (Int32 × Mem) :=
  bm (f_X3_setAside M) (fun M2 => bm (f_X11_makeChoice M2 x1 x2) (fun M5 => bm (f_X11_ordersChanged M5) (fun M8 => bd (f_X10_isAllowed M8) (fun r10 M11 => if r10 = true then bd (f_X11_countFetched M11 x3 x4) (fun r14 M15 => f_X11_tryChoice_39 r14 M15)
  else f_X11_tryChoice_39 (-9) M11))))
def f_X1_refresh_21  : Nat → Int32 → Mem → Option Mem
  | 0, _, _ => none
  | n21 + 1, x1, M => if (M.1 110 0) ≤ x1 then some (sI M 116 0 (bI true))
      else bm (f_X1_gather M x1) (fun M10 => bm (f_X1_link M10 x1) (fun M13 => f_X1_refresh_21 n21 (x1 + 1) M13))
def f_X1_refresh (M : Mem) : Option Mem :=
  if (zb (M.1 116 0)) = true then some M
  else bm (f_X9_refresh M) (fun M3 => bm (f_X1_clear M3) (fun M6 => f_X1_refresh_21 100000 0 M6))
