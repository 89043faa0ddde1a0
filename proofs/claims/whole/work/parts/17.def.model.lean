def f_X12_in (x0 : Int64) (x2 : Int64) (x4 : Int64) : Option Bool :=
  if x0 < x2 then some false
  else if x4 < x0 then some false
    else some true
def f_X12_meets (M : Mem) (x1 : Int32) : Option (Int32 × Mem) :=
  ck x1 6 (ck x1 6 (some ((-3), sI (sI M 100 0 x1) 1 x1.toNatClampNeg (((sI M 100 0 x1).1 1 x1.toNatClampNeg) + 1))))
def f_X12_finding (M : Mem) : Option Int32 :=
  some ((M.1 100 0))
def f_X12_findings (M : Mem) (x1 : Int32) : Option Int32 :=
  bq (f_X12_in x1.toInt64 1 5) (fun r1 => if r1 = true then ck x1 6 (some ((M.1 1 x1.toNatClampNeg)))
  else some (-1))
def f_X12_size (M : Mem) (x1 : Int32) (x2 : Int32) : Option (Int32 × Mem) :=
  bq (f_X12_in x1.toInt64 0 2) (fun r1 => if r1 = true then bq (f_X12_in x2.toInt64 (-400) 400) (fun r5 => if r5 = true then ck x1 3 (ck x1 3 (some ((M.1 2 x1.toNatClampNeg), sI M 2 x1.toNatClampNeg x2)))
    else some ((-1000), M))
  else some ((-1000), M))
def f_X12_term (M : Mem) (x1 : Int32) (x2 : Int32) : Option (Int32 × Mem) :=
  bq (f_X12_in x1.toInt64 0 7) (fun r1 => if r1 = true then bq (f_X12_in x2.toInt64 (-1000) 1000) (fun r5 => if r5 = true then ck x1 8 (some (1, sI M 3 x1.toNatClampNeg x2))
    else some ((-1), M))
  else some ((-1), M))
def f_X12_sum_14  : Nat → Int32 → Mem → Option (Int32 × Mem)
  | 0, _, _ => none
  | n14 + 1, x1, M => if 8 ≤ x1 then some ((((sI M 101 0 ((M.1 101 0) + 1)).1 101 0) - 1), sI M 101 0 ((M.1 101 0) + 1))
      else ck x1 8 (ck ((8 * (M.1 101 0)) + x1) 640 (ck x1 8 (f_X12_sum_14 n14 (x1 + 1) (sI (sI M 4 ((8 * (M.1 101 0)) + x1).toNatClampNeg (M.1 3 x1.toNatClampNeg)) 3 x1.toNatClampNeg 0))))
def f_X12_sum (M : Mem) : Option (Int32 × Mem) :=
  if (M.1 101 0) = 80 then some ((-2), M)
  else f_X12_sum_14 100000 0 M
def f_X12_isSum (M : Mem) (x1 : Int32) : Option Bool :=
  bq (f_X12_in x1.toInt64 0 ((M.1 101 0) - 1).toInt64) (fun r1 => some r1)
def f_X12_hasLetters_5  : Nat → Int32 → Bool → Int32 → Mem → Option Bool
  | 0, _, _, _, _ => none
  | n5 + 1, x1, x3, x4, M => if 4 ≤ x4 then some x3
      else if x3 = true then ck (((8 * x1) + 4) + x4) 640 (if (M.1 4 (((8 * x1) + 4) + x4).toNatClampNeg) = 0 then f_X12_hasLetters_5 n5 x1 true (x4 + 1) M
          else f_X12_hasLetters_5 n5 x1 false (x4 + 1) M)
        else f_X12_hasLetters_5 n5 x1 false (x4 + 1) M
def f_X12_hasLetters (M : Mem) (x1 : Int32) (x2 : Int32) : Option Bool :=
  f_X12_hasLetters_5 100000 x1 true x2 M
def f_X12_valueOf_56  : Nat → Int32 → Int64 → Int32 → Mem → Option Int64
  | 0, _, _, _, _ => none
  | n56 + 1, x1, x2, x4, M => if 4 ≤ x4 then some x2
          else ck (((8 * x1) + 4) + x4) 640 (ck x4 4 (f_X12_valueOf_56 n56 x1 (x2 + ((M.1 4 (((8 * x1) + 4) + x4).toNatClampNeg).toInt64 * (M.2.1 5 x4.toNatClampNeg))) (x4 + 1) M))
def f_X12_valueOf_14  : Nat → Int32 → Int64 → Int32 → Mem → Option Int64
  | 0, _, _, _, _ => none
  | n14 + 1, x1, x2, x4, M => if 3 ≤ x4 then f_X12_valueOf_56 100000 x1 x2 0 M
      else ck (((8 * x1) + 1) + x4) 640 (ck x4 3 (f_X12_valueOf_14 n14 x1 (x2 + ((M.1 4 (((8 * x1) + 1) + x4).toNatClampNeg).toInt64 * (M.1 2 x4.toNatClampNeg).toInt64)) (x4 + 1) M))
def f_X12_valueOf (M : Mem) (x1 : Int32) : Option Int64 :=
  ck (8 * x1) 640 (f_X12_valueOf_14 100000 x1 (M.1 4 (8 * x1).toNatClampNeg).toInt64 0 M)
def f_X12_isNode (M : Mem) (x1 : Int32) : Option Bool :=
  bq (f_X12_in x1.toInt64 0 ((M.1 102 0) - 1).toInt64) (fun r1 => some r1)
def f_X12_isLoop (M : Mem) (x1 : Int32) : Option Bool :=
  ck x1 40 (if (M.1 6 x1.toNatClampNeg) = 0 then some true
  else ck x1 40 (if (M.1 6 x1.toNatClampNeg) = 1 then some true
    else some false))
def f_X12_depthIn (M : Mem) (x1 : Int32) : Option Int32 :=
  if x1 = (-9) then some 0
  else ck x1 40 (bq (f_X12_isLoop M x1) (fun r3 => if r3 = true then some (((M.1 8 x1.toNatClampNeg) + 1))
    else some (((M.1 8 x1.toNatClampNeg) + 0))))
def f_X12_mayHold (M : Mem) (x1 : Int32) : Option Bool :=
  if x1 = (-9) then some true
  else bq (f_X12_isNode M x1) (fun r2 => if r2 = true then ck x1 40 (if (M.1 6 x1.toNatClampNeg) = 3 then some false
      else some true)
    else some false)
def f_X12_aim (M : Mem) (x1 : Int32) (x2 : Int32) (x3 : Int32) (x4 : Int32) (x5 : Int32) : Option (Int32 × Mem) :=
  bq (f_X12_isNode M x1) (fun r1 => if r1 = true then bq (f_X12_in x2.toInt64 0 2) (fun r5 => if r5 = true then bq (f_X12_in x3.toInt64 0 ((M.1 104 0) - 1).toInt64) (fun r9 => if r9 = true then bq (f_X12_isSum M x4) (fun r13 => if r13 = true then bq (f_X12_isSum M x5) (fun r17 => if r17 = true then ck x1 40 (if (M.1 6 x1.toNatClampNeg) = 3 then ck x1 40 (bq (f_X12_hasLetters M x4 (M.1 8 x1.toNatClampNeg)) (fun r24 => if r24 = true then ck x1 40 (bq (f_X12_hasLetters M x5 (M.1 8 x1.toNatClampNeg)) (fun r29 => if r29 = true then ck ((3 * x1) + x2) 120 (ck ((3 * x1) + x2) 120 (ck ((3 * x1) + x2) 120 (some (1, sI (sI (sI M 11 ((3 * x1) + x2).toNatClampNeg x3) 12 ((3 * x1) + x2).toNatClampNeg x4) 13 ((3 * x1) + x2).toNatClampNeg x5))))
                else some ((-1), M)))
              else some ((-1), M)))
            else bd (f_X12_meets M 3) (fun r36 M37 => some (r36, M37)))
          else some ((-1), M))
        else some ((-1), M))
      else some ((-1), M))
    else some ((-1), M))
  else some ((-1), M))
def f_X12_node (M : Mem) (x1 : Int32) (x2 : Int32) : Option Int32 :=
  bq (f_X12_isNode M x1) (fun r1 => if r1 = true then bq (f_X12_in x2.toInt64 0 4) (fun r5 => if r5 = true then if x2 = 0 then ck x1 40 (some ((M.1 6 x1.toNatClampNeg)))
      else if x2 = 1 then ck x1 40 (some ((M.1 7 x1.toNatClampNeg)))
        else if x2 = 2 then ck x1 40 (some ((M.1 8 x1.toNatClampNeg)))
          else if x2 = 3 then ck x1 40 (some ((M.1 9 x1.toNatClampNeg)))
            else ck x1 40 (some ((M.1 10 x1.toNatClampNeg)))
    else some (-1))
  else some (-1))
def f_X12_hold_45  (x1 : Int32) (x2 : Int32) (s1 : Int32) (s2 : Bool) (M : Mem) : Option (Int32 × Mem) :=
  ck s1 40 (ck x1 40 (some (1, sI (sI M 14 s1.toNatClampNeg (bI s2)) 15 x1.toNatClampNeg x2)))
def f_X12_hold_22  (x1 : Int32) (x2 : Int32) (M : Mem) : Option (Int32 × Mem) :=
  if x1 = x2 then some ((-1), M)
    else if x2 = (-9) then f_X12_hold_45 x1 x2 x1 false M
      else f_X12_hold_45 x1 x2 x1 true M
def f_X12_hold (M : Mem) (x1 : Int32) (x2 : Int32) : Option (Int32 × Mem) :=
  bq (f_X12_isNode M x1) (fun r1 => if r1 = true then if x2 = (-9) then f_X12_hold_22 x1 x2 M
    else bq (f_X12_isNode M x2) (fun r6 => if r6 = true then f_X12_hold_22 x1 x2 M
      else some ((-1), M))
  else some ((-1), M))
def f_X12_note_42  : Nat → Int32 → Int32 → Int32 → Mem → Option (Int32 × Mem)
  | 0, _, _, _, _ => none
  | n42 + 1, x1, x2, x3, M => if 12 ≤ x3 then some (x2, M)
      else ck ((12 * x1) + x3) 480 (f_X12_note_42 n42 x1 x2 (x3 + 1) (sI M 17 ((12 * x1) + x3).toNatClampNeg (vp_nar .byte 0)))
def f_X12_note (M : Mem) (x1 : Int32) (x2 : Int32) : Option (Int32 × Mem) :=
  bq (f_X12_isNode M x1) (fun r1 => if r1 = true then if x2 ≤ 12 then if 0 ≤ x2 then ck x1 40 (ck x1 40 (f_X12_note_42 100000 x1 x2 0 (sI (sI M 14 x1.toNatClampNeg 2) 16 x1.toNatClampNeg x2)))
      else bd (f_X12_meets M 5) (fun r9 M10 => some (r9, M10))
    else some ((-1), M)
  else some ((-1), M))
def f_X12_held_88   (M : Mem) : Option (Int32 × Mem) :=
  bd (f_X12_meets M 3) (fun r26 M27 => some (r26, M27))
def f_X12_held (M : Mem) (x1 : Int32) (x2 : Int32) : Option (Int32 × Mem) :=
  bq (f_X12_isNode M x1) (fun r1 => if r1 = true then bq (f_X12_in x2.toInt64 0 3) (fun r5 => if r5 = true then ck x1 40 (if (M.1 14 x1.toNatClampNeg) = 0 then bd (f_X12_meets M 1) (fun r23 M24 => some (r23, M24))
      else ck x1 40 (if (M.1 14 x1.toNatClampNeg) = 2 then bd (f_X12_meets M 3) (fun r20 M21 => some (r20, M21))
        else ck x1 40 (ck (M.1 15 x1.toNatClampNeg) 40 (if (M.1 6 (M.1 15 x1.toNatClampNeg).toNatClampNeg) = x2 then ck x1 40 (some ((M.1 15 x1.toNatClampNeg), M))
          else if x2 = 0 then if (M.1 6 (M.1 15 x1.toNatClampNeg).toNatClampNeg) = 1 then ck x1 40 (some ((M.1 15 x1.toNatClampNeg), M))
              else f_X12_held_88 M
            else f_X12_held_88 M))))
    else some ((-1), M))
  else some ((-1), M))
def f_X12_noted_35  (s1 : Int32) (M : Mem) : Option (Int32 × Mem) :=
  bd (f_X12_meets M s1) (fun r19 M20 => some (r19, M20))
def f_X12_noted (M : Mem) (x1 : Int32) (x2 : Int32) (x3 : Int32) : Option (Int32 × Mem) :=
  bq (f_X12_isNode M x1) (fun r1 => if r1 = true then ck x1 40 (if (M.1 14 x1.toNatClampNeg) = 2 then ck x1 40 (bq (f_X12_in x2.toInt64 0 ((M.1 16 x1.toNatClampNeg) - 1).toInt64) (fun r8 => if r8 = true then ck ((12 * x1) + x2) 480 (ck ((12 * x1) + x2) 480 (some ((1000 + (M.1 17 ((12 * x1) + x2).toNatClampNeg)), sI M 17 ((12 * x1) + x2).toNatClampNeg (vp_nar .byte x3.toInt8.toInt32))))
      else bd (f_X12_meets M 2) (fun r14 M15 => some (r14, M15))))
    else ck x1 40 (if (M.1 14 x1.toNatClampNeg) = 0 then f_X12_noted_35 1 M
      else f_X12_noted_35 3 M))
  else some ((-1), M))
def f_X12_copy_38   (M : Mem) : Option (Int32 × Mem) :=
  bd (f_X12_meets M 3) (fun r24 M25 => some (r24, M25))
def f_X12_copy_62   (M : Mem) : Option (Int32 × Mem) :=
  bd (f_X12_meets M 1) (fun r27 M28 => some (r27, M28))
def f_X12_copy_117   (M : Mem) : Option (Int32 × Mem) :=
  bd (f_X12_meets M 2) (fun r30 M31 => some (r30, M31))
def f_X12_copy_163  : Nat → Int32 → Int32 → Int32 → Int32 → Mem → Option (Int32 × Mem)
  | 0, _, _, _, _, _ => none
  | n163 + 1, x3, x4, x5, x6, M => if x5 ≤ x6 then some (1, M)
          else ck x6 12 (ck (((12 * x3) + x4) + x6) 480 (f_X12_copy_163 n163 x3 x4 x5 (x6 + 1) (sI M 17 (((12 * x3) + x4) + x6).toNatClampNeg (vp_nar .byte (M.1 18 x6.toNatClampNeg)))))
def f_X12_copy_126  : Nat → Int32 → Int32 → Int32 → Int32 → Int32 → Int32 → Mem → Option (Int32 × Mem)
  | 0, _, _, _, _, _, _, _ => none
  | n126 + 1, x1, x2, x3, x4, x5, x6, M => if x5 ≤ x6 then f_X12_copy_163 100000 x3 x4 x5 0 M
      else ck (((12 * x1) + x2) + x6) 480 (ck x6 12 (f_X12_copy_126 n126 x1 x2 x3 x4 x5 (x6 + 1) (sI M 18 x6.toNatClampNeg (vp_nar .byte (M.1 17 (((12 * x1) + x2) + x6).toNatClampNeg)))))
def f_X12_copy (M : Mem) (x1 : Int32) (x2 : Int32) (x3 : Int32) (x4 : Int32) (x5 : Int32) : Option (Int32 × Mem) :=
  bq (f_X12_isNode M x1) (fun r1 => if r1 = true then bq (f_X12_isNode M x3) (fun r5 => if r5 = true then ck x1 40 (if (M.1 14 x1.toNatClampNeg) = 1 then f_X12_copy_38 M
      else ck x3 40 (if (M.1 14 x3.toNatClampNeg) = 1 then f_X12_copy_38 M
        else ck x1 40 (if (M.1 14 x1.toNatClampNeg) = 0 then f_X12_copy_62 M
          else ck x3 40 (if (M.1 14 x3.toNatClampNeg) = 0 then f_X12_copy_62 M
            else if x2 < 0 then f_X12_copy_117 M
              else if x4 < 0 then f_X12_copy_117 M
                else if x5 < 0 then f_X12_copy_117 M
                  else ck x1 40 (if (M.1 16 x1.toNatClampNeg).toInt64 < (x2.toInt64 + x5.toInt64) then f_X12_copy_117 M
                    else ck x3 40 (if (x4.toInt64 + x5.toInt64) ≤ (M.1 16 x3.toNatClampNeg).toInt64 then f_X12_copy_126 100000 x1 x2 x3 x4 x5 0 M
                      else f_X12_copy_117 M))))))
    else some ((-1), M))
  else some ((-1), M))
def f_X12_isArray (M : Mem) (x1 : Int32) : Option Bool :=
  bq (f_X12_in x1.toInt64 0 ((M.1 104 0) - 1).toInt64) (fun r1 => some r1)
def f_X12_array_64  : Nat → Int32 → Mem → Option (Int32 × Mem)
  | 0, _, _ => none
  | n64 + 1, x3, M => if 20 ≤ x3 then some ((((sI M 104 0 ((M.1 104 0) + 1)).1 104 0) - 1), sI M 104 0 ((M.1 104 0) + 1))
      else ck ((20 * (M.1 104 0)) + x3) 160 (f_X12_array_64 n64 (x3 + 1) (sI M 21 ((20 * (M.1 104 0)) + x3).toNatClampNeg (-9)))
def f_X12_array (M : Mem) (x1 : Int32) (x2 : Int32) : Option (Int32 × Mem) :=
  bq (f_X12_in x1.toInt64 0 3) (fun r1 => if r1 = true then if x2 ≤ 20 then if (M.1 104 0) = 8 then some ((-2), M)
      else if 0 ≤ x2 then ck (M.1 104 0) 8 (ck ((sI M 19 (M.1 104 0).toNatClampNeg x1).1 104 0) 8 (f_X12_array_64 100000 0 (sI (sI M 19 (M.1 104 0).toNatClampNeg x1) 20 ((sI M 19 (M.1 104 0).toNatClampNeg x1).1 104 0).toNatClampNeg x2)))
        else bd (f_X12_meets M 5) (fun r10 M11 => some (r10, M11))
    else some ((-1), M)
  else some ((-1), M))
def f_X12_row_65  : Nat → Int32 → Int32 → Int32 → Int32 → Mem → Option (Int32 × Mem)
  | 0, _, _, _, _, _ => none
  | n65 + 1, x1, x2, x3, x4, M => if 20 ≤ x4 then some (x3, M)
      else ck (((400 * x1) + (20 * x2)) + x4) 3200 (f_X12_row_65 n65 x1 x2 x3 (x4 + 1) (sL M 22 (((400 * x1) + (20 * x2)) + x4).toNatClampNeg 0))
def f_X12_row (M : Mem) (x1 : Int32) (x2 : Int32) (x3 : Int32) : Option (Int32 × Mem) :=
  bq (f_X12_isArray M x1) (fun r1 => if r1 = true then if x3 ≤ 20 then ck x1 8 (bq (f_X12_in x2.toInt64 0 ((M.1 20 x1.toNatClampNeg) - 1).toInt64) (fun r7 => if r7 = true then if 0 ≤ x3 then ck ((20 * x1) + x2) 160 (f_X12_row_65 100000 x1 x2 x3 0 (sI M 21 ((20 * x1) + x2).toNatClampNeg x3))
        else bd (f_X12_meets M 5) (fun r13 M14 => some (r13, M14))
      else bd (f_X12_meets M 2) (fun r16 M17 => some (r16, M17))))
    else some ((-1), M)
  else some ((-1), M))
def f_X12_tear (M : Mem) (x1 : Int32) (x2 : Int32) : Option (Int32 × Mem) :=
  bq (f_X12_isArray M x1) (fun r1 => if r1 = true then ck x1 8 (bq (f_X12_in x2.toInt64 0 ((M.1 20 x1.toNatClampNeg) - 1).toInt64) (fun r6 => if r6 = true then ck ((20 * x1) + x2) 160 (some (1, sI M 21 ((20 * x1) + x2).toNatClampNeg (-9)))
    else bd (f_X12_meets M 2) (fun r11 M12 => some (r11, M12))))
  else some ((-1), M))
def f_X12_lacks (M : Mem) (x1 : Int32) (x2 : Int64) (x4 : Int64) : Option Int32 :=
  ck x1 8 (bq (f_X12_in x2 0 ((M.1 20 x1.toNatClampNeg) - 1).toInt64) (fun r2 => if r2 = true then ck ((20 * x1) + x2.toInt32) 160 (if (M.1 21 ((20 * x1) + x2.toInt32).toNatClampNeg) = (-9) then some 1
    else bq (f_X12_in x4 0 ((M.1 21 ((20 * x1) + x2.toInt32).toNatClampNeg) - 1).toInt64) (fun r8 => if r8 = true then some 0
      else some 2))
  else some 2))
def f_X12_at (M : Mem) (x1 : Int32) (x2 : Int64) (x4 : Int64) : Option Int32 :=
  some ((((400 * x1) + (20 * x2.toInt32)) + x4.toInt32))
def f_X12_cut (x0 : Int32) (x1 : Int64) : Option Int64 :=
  if x0 = 0 then some x1.toInt32.toInt8.toInt32.toInt64
  else if x0 = 1 then some x1.toInt32.toInt16.toInt32.toInt64
    else if x0 = 2 then some x1.toInt32.toInt64
      else some x1
def f_X12_lay (M : Mem) (x1 : Int32) (x2 : Int32) (x3 : Int32) (x4 : Int64) : Option (Int32 × Mem) :=
  bq (f_X12_isArray M x1) (fun r1 => if r1 = true then bq (f_X12_lacks M x1 x2.toInt64 x3.toInt64) (fun r5 => if r5 ≤ 0 then bq (f_X12_at M x1 x2.toInt64 x3.toInt64) (fun r9 => ck x1 8 (bq (f_X12_cut (M.1 19 x1.toNatClampNeg) x4) (fun r13 => ck r9 3200 (some (1, sL M 22 r9.toNatClampNeg r13)))))
    else bd (f_X12_meets M r5) (fun r17 M18 => some (r17, M18)))
  else some ((-1), M))
def f_X12_get (M : Mem) (x1 : Int32) (x2 : Int32) (x3 : Int32) : Option (Int32 × Mem) :=
  bq (f_X12_isArray M x1) (fun r1 => if r1 = true then bq (f_X12_lacks M x1 x2.toInt64 x3.toInt64) (fun r5 => if r5 ≤ 0 then bq (f_X12_at M x1 x2.toInt64 x3.toInt64) (fun r9 => ck r9 3200 (some (1, sL M 105 0 (M.2.1 22 r9.toNatClampNeg))))
    else bd (f_X12_meets M r5) (fun r13 M14 => some (r13, M14)))
  else some ((-1), M))
def f_X12_asked (M : Mem) : Option Int64 :=
  some ((M.2.1 105 0))
def f_X12_nextIn_2  : Nat → Int32 → Int32 → Mem → Option Int32
  | 0, _, _, _ => none
  | n2 + 1, x1, x3, M => if (M.1 102 0) ≤ x3 then some x3
      else ck x3 40 (if (M.1 7 x3.toNatClampNeg) = x1 then some x3
        else f_X12_nextIn_2 n2 x1 (x3 + 1) M)
def f_X12_nextIn (M : Mem) (x1 : Int32) (x2 : Int32) : Option Int32 :=
  f_X12_nextIn_2 100000 x1 x2 M
def f_X12_turns (M : Mem) (x1 : Int32) : Option (Bool × Mem) :=
  ck x1 41 (ck (M.1 25 x1.toNatClampNeg) 40 (ck (M.1 8 (M.1 25 x1.toNatClampNeg).toNatClampNeg) 4 (ck x1 41 (if (M.2.1 5 (M.1 8 (M.1 25 x1.toNatClampNeg).toNatClampNeg).toNatClampNeg) ≤ (M.2.1 27 x1.toNatClampNeg) then if (zb ((sI M 107 0 ((M.1 107 0) + 1)).1 108 0)) = true then some (true, sI (sI M 107 0 ((M.1 107 0) + 1)) 108 0 (bI true))
    else if ((sI M 107 0 ((M.1 107 0) + 1)).1 107 0) ≤ 4000 then some (true, sI (sI M 107 0 ((M.1 107 0) + 1)) 108 0 (bI false))
      else some (true, sI (sI M 107 0 ((M.1 107 0) + 1)) 108 0 (bI true))
  else some (false, M)))))
def f_X12_see_28  : Nat → Int32 → Int32 → Mem → Option Mem
  | 0, _, _, _ => none
  | n28 + 1, x1, x2, M => if 4 ≤ x2 then some (sI M 106 0 ((M.1 106 0) + 1))
      else ck x1 40 (if (M.1 8 x1.toNatClampNeg) ≤ x2 then ck ((4 * (M.1 106 0)) + x2) 1604 (f_X12_see_28 n28 x1 (x2 + 1) (sL M 24 ((4 * (M.1 106 0)) + x2).toNatClampNeg 0))
        else ck x2 4 (ck ((4 * (M.1 106 0)) + x2) 1604 (f_X12_see_28 n28 x1 (x2 + 1) (sL M 24 ((4 * (M.1 106 0)) + x2).toNatClampNeg (M.2.1 5 x2.toNatClampNeg)))))
def f_X12_see (M : Mem) (x1 : Int32) : Option Mem :=
  if (M.1 106 0) = 400 then some (sI M 108 0 (bI true))
  else ck (M.1 106 0) 401 (f_X12_see_28 100000 x1 0 (sI M 23 (M.1 106 0).toNatClampNeg x1))
def f_X12_closeLoop (M : Mem) (x1 : Int32) : Option Mem :=
  ck x1 41 (ck (M.1 25 x1.toNatClampNeg) 40 (ck (M.1 8 (M.1 25 x1.toNatClampNeg).toNatClampNeg) 4 (some (sL M 5 (M.1 8 (M.1 25 x1.toNatClampNeg).toNatClampNeg).toNatClampNeg 0))))
def f_X12_lettersOf_2  : Nat → Int32 → Int32 → Mem → Option Mem
  | 0, _, _, _ => none
  | n2 + 1, x1, x2, M => if 4 ≤ x2 then some M
      else ck ((4 * x1) + x2) 1604 (ck x2 4 (f_X12_lettersOf_2 n2 x1 (x2 + 1) (sL M 5 x2.toNatClampNeg (M.2.1 24 ((4 * x1) + x2).toNatClampNeg))))
def f_X12_lettersOf (M : Mem) (x1 : Int32) : Option Mem :=
  f_X12_lettersOf_2 100000 x1 0 M
def f_X12_hasAim (M : Mem) (x1 : Int32) (x2 : Int32) : Option Bool :=
  ck x1 401 (ck ((3 * (M.1 23 x1.toNatClampNeg)) + x2) 120 (if (M.1 11 ((3 * (M.1 23 x1.toNatClampNeg)) + x2).toNatClampNeg) = (-9) then some false
  else some true))
def f_X12_touchAll_17 (k2 : Int32 → Mem → Option Mem) : Nat → Int32 → Int32 → Mem → Option Mem
  | 0, _, _, _ => none
  | n17 + 1, x1, x2, M => if 3 ≤ x2 then k2 (x1 + 1) M
          else bq (f_X12_hasAim M x1 x2) (fun r6 => if r6 = true then ck x1 401 (ck ((3 * (M.1 23 x1.toNatClampNeg)) + x2) 120 (bq (f_X12_valueOf M (M.1 12 ((3 * (M.1 23 x1.toNatClampNeg)) + x2).toNatClampNeg)) (fun r12 => ck ((3 * x1) + x2) 1200 (ck x1 401 (ck ((3 * ((sL M 28 ((3 * x1) + x2).toNatClampNeg r12).1 23 x1.toNatClampNeg)) + x2) 120 (bq (f_X12_valueOf (sL M 28 ((3 * x1) + x2).toNatClampNeg r12) ((sL M 28 ((3 * x1) + x2).toNatClampNeg r12).1 13 ((3 * ((sL M 28 ((3 * x1) + x2).toNatClampNeg r12).1 23 x1.toNatClampNeg)) + x2).toNatClampNeg)) (fun r18 => ck ((3 * x1) + x2) 1200 (f_X12_touchAll_17 k2 n17 x1 (x2 + 1) (sL (sL M 28 ((3 * x1) + x2).toNatClampNeg r12) 29 ((3 * x1) + x2).toNatClampNeg r18)))))))))
            else f_X12_touchAll_17 k2 n17 x1 (x2 + 1) M)
def f_X12_touchAll_2  : Nat → Int32 → Mem → Option Mem
  | 0, _, _ => none
  | n2 + 1, x1, M => if (M.1 106 0) ≤ x1 then some M
      else bm (f_X12_lettersOf M x1) (fun M3 => f_X12_touchAll_17 (f_X12_touchAll_2 n2) 100000 x1 0 M3)
def f_X12_touchAll (M : Mem) : Option Mem :=
  f_X12_touchAll_2 100000 0 M
def f_X12_isOne (M : Mem) (x1 : Int32) (x2 : Int32) (x3 : Int32) (x4 : Int32) : Option Bool :=
  bq (f_X12_hasAim M x1 x2) (fun r1 => if r1 = true then bq (f_X12_hasAim M x3 x4) (fun r5 => if r5 = true then ck x1 401 (ck ((3 * (M.1 23 x1.toNatClampNeg)) + x2) 120 (ck x3 401 (ck ((3 * (M.1 23 x3.toNatClampNeg)) + x4) 120 (if (M.1 11 ((3 * (M.1 23 x1.toNatClampNeg)) + x2).toNatClampNeg) = (M.1 11 ((3 * (M.1 23 x3.toNatClampNeg)) + x4).toNatClampNeg) then ck ((3 * x1) + x2) 1200 (ck ((3 * x3) + x4) 1200 (if (M.2.1 28 ((3 * x1) + x2).toNatClampNeg) = (M.2.1 28 ((3 * x3) + x4).toNatClampNeg) then ck ((3 * x1) + x2) 1200 (ck ((3 * x3) + x4) 1200 (if (M.2.1 29 ((3 * x1) + x2).toNatClampNeg) = (M.2.1 29 ((3 * x3) + x4).toNatClampNeg) then some true
          else some false))
        else some false))
      else some false))))
    else some false)
  else some false)
def f_X12_isNeed (M : Mem) (x1 : Int32) (x2 : Int32) (x3 : Int32) : Option Bool :=
  if x3 = 2 then bq (f_X12_isOne M x1 0 x2 0) (fun r19 => some r19)
  else if x3 = 0 then bq (f_X12_isOne M x1 0 x2 1) (fun r11 => if r11 = true then some true
      else bq (f_X12_isOne M x1 0 x2 2) (fun r15 => if r15 = true then some true
        else some false))
    else bq (f_X12_isOne M x1 1 x2 0) (fun r3 => if r3 = true then some true
      else bq (f_X12_isOne M x1 2 x2 0) (fun r7 => if r7 = true then some true
        else some false))
def f_X12_loopOf_7  : Nat → Int32 → Int32 → Mem → Option Int32
  | 0, _, _, _ => none
  | n7 + 1, x2, x3, M => if x3 = (-9) then some x3
      else bq (f_X12_isLoop M x3) (fun r3 => if r3 = true then ck x3 40 (if (M.1 8 x3.toNatClampNeg) = x2 then some x3
          else ck x3 40 (f_X12_loopOf_7 n7 x2 (M.1 7 x3.toNatClampNeg) M))
        else ck x3 40 (f_X12_loopOf_7 n7 x2 (M.1 7 x3.toNatClampNeg) M))
def f_X12_loopOf (M : Mem) (x1 : Int32) (x2 : Int32) : Option Int32 :=
  ck x1 40 (f_X12_loopOf_7 100000 x2 (M.1 7 x1.toNatClampNeg) M)
def f_X12_carrier_2  : Nat → Int32 → Int32 → Int32 → Mem → Option Int32
  | 0, _, _, _, _ => none
  | n2 + 1, x1, x2, x3, M => if 4 ≤ x3 then some (-9)
      else ck x1 401 (bq (f_X12_loopOf M (M.1 23 x1.toNatClampNeg) x3) (fun r3 => if r3 = (-9) then some (-9)
        else ck x2 401 (bq (f_X12_loopOf M (M.1 23 x2.toNatClampNeg) x3) (fun r8 => if r3 = r8 then ck ((4 * x1) + x3) 1604 (ck ((4 * x2) + x3) 1604 (if (M.2.1 24 ((4 * x1) + x3).toNatClampNeg) = (M.2.1 24 ((4 * x2) + x3).toNatClampNeg) then f_X12_carrier_2 n2 x1 x2 (x3 + 1) M
            else some x3))
          else some (-9)))))
def f_X12_carrier (M : Mem) (x1 : Int32) (x2 : Int32) : Option Int32 :=
  f_X12_carrier_2 100000 x1 x2 0 M
def f_X12_isIn_28  (x2 : Int32) (x3 : Int32) (M : Mem) : Option Bool :=
  if x3 = x2 then some true
        else some false
def f_X12_isIn_7  : Nat → Int32 → Int32 → Mem → Option Bool
  | 0, _, _, _ => none
  | n7 + 1, x2, x3, M => if x3 = (-9) then f_X12_isIn_28 x2 x3 M
      else if x3 = x2 then f_X12_isIn_28 x2 x3 M
        else ck x3 40 (f_X12_isIn_7 n7 x2 (M.1 7 x3.toNatClampNeg) M)
def f_X12_isIn (M : Mem) (x1 : Int32) (x2 : Int32) : Option Bool :=
  ck x1 40 (f_X12_isIn_7 100000 x2 (M.1 7 x1.toNatClampNeg) M)
def f_X12_rowAt (x0 : Int32) (x1 : Int32) : Option Int32 :=
  some ((7 * ((16 * x0) + x1)))
def f_X12_setRow_75  (x3 : Int32) (x4 : Int32) (x5 : Int32) (s1 : Int32) (s2 : Bool) (M : Mem) : Option Mem :=
  ck s1 4480 (ck x5 4480 (ck (x5 + 5) 4480 (ck (x5 + 6) 4480 (some (sI (sI (sI (sI M 31 s1.toNatClampNeg (bI s2)) 31 x5.toNatClampNeg x3) 31 (x5 + 5).toNatClampNeg 1) 31 (x5 + 6).toNatClampNeg x4)))))
def f_X12_setRow_62  (x3 : Int32) (x4 : Int32) (x5 : Int32) (s1 : Int32) (s2 : Int32) (M : Mem) : Option Mem :=
  if x4 = (-9) then f_X12_setRow_75 x3 x4 x5 (s1 + s2) false M
        else f_X12_setRow_75 x3 x4 x5 (s1 + s2) true M
def f_X12_setRow_10  : Nat → Int32 → Int32 → Int32 → Int32 → Mem → Option Mem
  | 0, _, _, _, _, _ => none
  | n10 + 1, x3, x4, x5, x6, M => if 5 ≤ x6 then ck x5 4480 (if x4 = (-9) then f_X12_setRow_62 x3 x4 x5 (x5 + 1) 0 (sI M 31 x5.toNatClampNeg x3)
        else f_X12_setRow_62 x3 x4 x5 (x5 + 1) x4 (sI M 31 x5.toNatClampNeg x3))
      else ck (x5 + x6) 4480 (f_X12_setRow_10 n10 x3 x4 x5 (x6 + 1) (sI M 31 (x5 + x6).toNatClampNeg 0))
def f_X12_setRow (M : Mem) (x1 : Int32) (x2 : Int32) (x3 : Int32) (x4 : Int32) : Option Mem :=
  bq (f_X12_rowAt x1 x2) (fun r1 => f_X12_setRow_10 100000 x3 x4 r1 0 M)
def f_X12_placeOf_2  : Nat → Int32 → Int32 → Mem → Option Int32
  | 0, _, _, _ => none
  | n2 + 1, x2, x3, M => ck x3 40 (if (M.1 7 x3.toNatClampNeg) = (-9) then some x3
      else ck x3 40 (bq (f_X12_isLoop M (M.1 7 x3.toNatClampNeg)) (fun r4 => if r4 = true then ck x3 40 (ck (M.1 7 x3.toNatClampNeg) 40 (if (M.1 8 (M.1 7 x3.toNatClampNeg).toNatClampNeg) = (x2 - 1) then some x3
          else ck x3 40 (f_X12_placeOf_2 n2 x2 (M.1 7 x3.toNatClampNeg) M)))
        else ck x3 40 (f_X12_placeOf_2 n2 x2 (M.1 7 x3.toNatClampNeg) M))))
def f_X12_placeOf (M : Mem) (x1 : Int32) (x2 : Int32) : Option Int32 :=
  f_X12_placeOf_2 100000 x2 x1 M
def f_X12_firstOrders_45 (k7 : Int32 → Mem → Option Mem) : Nat → Int32 → Int32 → Int32 → Mem → Option Mem
  | 0, _, _, _, _ => none
  | n45 + 1, x1, x2, x3, M => if x2 < x3 then k7 (x1 + 1) M
          else bq (f_X12_placeOf M x1 x3) (fun r7 => bm (f_X12_setRow M x1 (2 * x3) r7 (-9)) (fun M11 => if x2 ≤ x3 then f_X12_firstOrders_45 k7 n45 x1 x2 (x3 + 1) M11
            else bm (f_X12_setRow M11 x1 ((2 * x3) + 1) 0 x3) (fun M15 => f_X12_firstOrders_45 k7 n45 x1 x2 (x3 + 1) M15)))
def f_X12_firstOrders_7  : Nat → Int32 → Mem → Option Mem
  | 0, _, _ => none
  | n7 + 1, x1, M => if (M.1 102 0) ≤ x1 then some M
      else ck x1 40 (if (M.1 6 x1.toNatClampNeg) = 3 then ck x1 40 (ck x1 40 (f_X12_firstOrders_45 (f_X12_firstOrders_7 n7) 100000 x1 (M.1 8 x1.toNatClampNeg) 0 (sI M 30 x1.toNatClampNeg ((2 * (M.1 8 x1.toNatClampNeg)) + 1))))
        else f_X12_firstOrders_7 n7 (x1 + 1) M)
def f_X12_firstOrders (M : Mem) : Option Mem :=
  f_X12_firstOrders_7 100000 0 (sI M 109 0 0)
def f_X12_loopRow_2  : Nat → Int32 → Int32 → Int32 → Mem → Option Int32
  | 0, _, _, _, _ => none
  | n2 + 1, x1, x2, x3, M => ck x1 40 (if (M.1 30 x1.toNatClampNeg) ≤ x3 then some (-9)
      else bq (f_X12_rowAt x1 x3) (fun r3 => ck (r3 + 6) 4480 (if (M.1 31 (r3 + 6).toNatClampNeg) = x2 then some x3
        else f_X12_loopRow_2 n2 x1 x2 (x3 + 1) M)))
def f_X12_loopRow (M : Mem) (x1 : Int32) (x2 : Int32) : Option Int32 :=
  f_X12_loopRow_2 100000 x1 x2 0 M
def f_X12_keepTried_28  : Nat → Int32 → Mem → Option Mem
  | 0, _, _ => none
  | n28 + 1, x1, M => if 4480 ≤ x1 then some M
          else ck x1 4480 (ck x1 4480 (f_X12_keepTried_28 n28 (x1 + 1) (sI M 35 x1.toNatClampNeg (M.1 31 x1.toNatClampNeg))))
def f_X12_keepTried_2  : Nat → Int32 → Mem → Option Mem
  | 0, _, _ => none
  | n2 + 1, x1, M => if 40 ≤ x1 then f_X12_keepTried_28 100000 0 M
      else ck x1 40 (ck x1 40 (f_X12_keepTried_2 n2 (x1 + 1) (sI M 34 x1.toNatClampNeg (M.1 30 x1.toNatClampNeg))))
def f_X12_keepTried (M : Mem) : Option Mem :=
  f_X12_keepTried_2 100000 0 M
def f_X12_giveTried_28  : Nat → Int32 → Mem → Option Mem
  | 0, _, _ => none
  | n28 + 1, x1, M => if 4480 ≤ x1 then some M
          else ck x1 4480 (ck x1 4480 (f_X12_giveTried_28 n28 (x1 + 1) (sI M 31 x1.toNatClampNeg (M.1 35 x1.toNatClampNeg))))
def f_X12_giveTried_2  : Nat → Int32 → Mem → Option Mem
  | 0, _, _ => none
  | n2 + 1, x1, M => if 40 ≤ x1 then f_X12_giveTried_28 100000 0 M
      else ck x1 40 (ck x1 40 (f_X12_giveTried_2 n2 (x1 + 1) (sI M 30 x1.toNatClampNeg (M.1 34 x1.toNatClampNeg))))
def f_X12_giveTried (M : Mem) : Option Mem :=
  f_X12_giveTried_2 100000 0 M
def f_X12_turned_116  : Nat → Int32 → Mem → Option (Int32 × Mem)
  | 0, _, _ => none
  | n116 + 1, x1, M => if 4480 ≤ x1 then some (1, sI M 109 0 ((M.1 109 0) + 1))
          else ck x1 4480 (ck ((4480 * (M.1 109 0)) + x1) 89600 (f_X12_turned_116 n116 (x1 + 1) (sI M 33 ((4480 * (M.1 109 0)) + x1).toNatClampNeg (M.1 35 x1.toNatClampNeg))))
def f_X12_turned_82  : Nat → Int32 → Mem → Option (Int32 × Mem)
  | 0, _, _ => none
  | n82 + 1, x1, M => if 40 ≤ x1 then f_X12_turned_116 100000 0 M
      else ck x1 40 (ck ((40 * (M.1 109 0)) + x1) 800 (f_X12_turned_82 n82 (x1 + 1) (sI M 32 ((40 * (M.1 109 0)) + x1).toNatClampNeg (M.1 34 x1.toNatClampNeg))))
def f_X12_turned_41 (k82 : Int32 → Mem → Option (Int32 × Mem)) : Nat → Int32 → Mem → Option (Int32 × Mem)
  | 0, _, _ => none
  | n41 + 1, x1, M => if 85120 ≤ x1 then k82 0 (sI M 109 0 ((M.1 109 0) - 1))
          else ck (x1 + 4480) 89600 (ck x1 89600 (f_X12_turned_41 k82 n41 (x1 + 1) (sI M 33 x1.toNatClampNeg (M.1 33 (x1 + 4480).toNatClampNeg))))
def f_X12_turned_11 (k82 : Int32 → Mem → Option (Int32 × Mem)) : Nat → Int32 → Mem → Option (Int32 × Mem)
  | 0, _, _ => none
  | n11 + 1, x1, M => if 760 ≤ x1 then f_X12_turned_41 k82 100000 0 M
      else ck (x1 + 40) 800 (ck x1 800 (f_X12_turned_11 k82 n11 (x1 + 1) (sI M 32 x1.toNatClampNeg (M.1 32 (x1 + 40).toNatClampNeg))))
def f_X12_turned (M : Mem) : Option (Int32 × Mem) :=
  if (M.1 109 0) = 20 then f_X12_turned_11 (f_X12_turned_82 100000) 100000 0 M
  else f_X12_turned_82 100000 0 M
def f_X12_fits_46  : Nat → Int32 → Bool → Int32 → Mem → Option (Bool × Mem)
  | 0, _, _, _, _ => none
  | n46 + 1, x1, x3, x4, M => if 5 ≤ x4 then some (x3, M)
          else if x3 = true then ck x4 5 (ck (x1 + x4) 4480 (f_X12_fits_46 n46 x1 x3 (x4 + 1) (sI M 31 (x1 + x4).toNatClampNeg (M.2.1 36 x4.toNatClampNeg).toInt32)))
            else some (x3, M)
def f_X12_fits_5  : Nat → Int32 → Bool → Int32 → Mem → Option (Bool × Mem)
  | 0, _, _, _, _ => none
  | n5 + 1, x1, x3, x4, M => if 5 ≤ x4 then f_X12_fits_46 100000 x1 x3 0 M
      else if x3 = true then ck x4 5 (bq (f_X12_in (M.2.1 36 x4.toNatClampNeg) (-100000) 100000) (fun r4 => if r4 = true then f_X12_fits_5 n5 x1 true (x4 + 1) M
          else f_X12_fits_5 n5 x1 false (x4 + 1) M))
        else f_X12_fits_5 n5 x1 false (x4 + 1) M
def f_X12_fits (M : Mem) (x1 : Int32) : Option (Bool × Mem) :=
  f_X12_fits_5 100000 x1 true 0 M
def f_X12_isActIn (M : Mem) (x1 : Int32) (x2 : Int32) : Option Bool :=
  ck x1 40 (if (M.1 6 x1.toNatClampNeg) = 3 then bq (f_X12_isIn M x1 x2) (fun r3 => if r3 = true then some true
    else some false)
  else some false)
def f_X12_swapRows_71 (k10 : Int32 → Int32 → Int32 → Int32 → Mem → Option Mem) : Nat → Int32 → Int32 → Int32 → Int32 → Int32 → Int32 → Int32 → Mem → Option Mem
  | 0, _, _, _, _, _, _, _, _ => none
  | n71 + 1, x1, x2, x3, x4, x5, x6, x7, M => if 6 ≤ x7 then k10 x1 x2 x3 (x4 + 1) M
          else ck (x5 + x7) 4480 (ck (x6 + x7) 4480 (ck (x5 + x7) 4480 (ck (x6 + x7) 4480 (f_X12_swapRows_71 k10 n71 x1 x2 x3 x4 x5 x6 (x7 + 1) (sI (sI M 31 (x5 + x7).toNatClampNeg (M.1 31 (x6 + x7).toNatClampNeg)) 31 (x6 + x7).toNatClampNeg (M.1 31 (x5 + x7).toNatClampNeg))))))
def f_X12_swapRows_10  : Nat → Int32 → Int32 → Int32 → Int32 → Mem → Option Mem
  | 0, _, _, _, _, _ => none
  | n10 + 1, x1, x2, x3, x4, M => if (M.1 102 0) ≤ x4 then some M
      else bq (f_X12_isActIn M x4 x1) (fun r3 => if r3 = true then ck x4 40 (if (M.1 8 x4.toNatClampNeg) ≤ x2 then f_X12_swapRows_10 n10 x1 x2 x3 (x4 + 1) M
          else bq (f_X12_loopRow M x4 x3) (fun r9 => bq (f_X12_rowAt x4 r9) (fun r12 => bq (f_X12_loopRow M x4 x2) (fun r15 => bq (f_X12_rowAt x4 r15) (fun r18 => f_X12_swapRows_71 (f_X12_swapRows_10 n10) 100000 x1 x2 x3 x4 r12 r18 0 M)))))
        else f_X12_swapRows_10 n10 x1 x2 x3 (x4 + 1) M)
def f_X12_swapRows (M : Mem) (x1 : Int32) (x2 : Int32) : Option Mem :=
  ck x1 40 (f_X12_swapRows_10 100000 x1 x2 (M.1 8 x1.toNatClampNeg) 0 M)
def f_X12_swap (M : Mem) (x1 : Int32) (x2 : Int32) : Option (Int32 × Mem) :=
  bq (f_X12_isNode M x1) (fun r1 => if r1 = true then bq (f_X12_isLoop M x1) (fun r5 => if r5 = true then ck x1 40 (bq (f_X12_in x2.toInt64 ((M.1 8 x1.toNatClampNeg) + 1).toInt64 3) (fun r10 => if r10 = true then bm (f_X12_keepTried M) (fun M15 => bm (f_X12_swapRows M15 x1 x2) (fun M18 => bd (f_X12_turned M18) (fun r20 M21 => some (r20, M21))))
      else some ((-1), M)))
    else bd (f_X12_meets M 3) (fun r23 M24 => some (r23, M24)))
  else some ((-1), M))
def f_X12_lean_135 (k73 : Int32 → Int32 → Int32 → Int32 → Int32 → Mem → Option (Int32 × Mem)) : Nat → Int32 → Int32 → Int32 → Int32 → Int32 → Int32 → Int32 → Int32 → Mem → Option (Int32 × Mem)
  | 0, _, _, _, _, _, _, _, _, _ => none
  | n135 + 1, x1, x2, x3, x4, x5, x6, x7, x8, M => if 5 ≤ x8 then bd (f_X12_fits M x6) (fun r48 M49 => if r48 = true then k73 x1 x2 x3 x4 (x5 + 1) M49
            else bm (f_X12_giveTried M49) (fun M53 => some ((-6), M53)))
          else ck (x6 + x8) 4480 (ck (x7 + x8) 4480 (ck x8 5 (f_X12_lean_135 k73 n135 x1 x2 x3 x4 x5 x6 x7 (x8 + 1) (sL M 36 x8.toNatClampNeg ((M.1 31 (x6 + x8).toNatClampNeg).toInt64 + (x3.toInt64 * (M.1 31 (x7 + x8).toNatClampNeg).toInt64))))))
def f_X12_lean_73  : Nat → Int32 → Int32 → Int32 → Int32 → Int32 → Mem → Option (Int32 × Mem)
  | 0, _, _, _, _, _, _ => none
  | n73 + 1, x1, x2, x3, x4, x5, M => if (M.1 102 0) ≤ x5 then bd (f_X12_turned M) (fun r26 M27 => some (r26, M27))
      else bq (f_X12_isActIn M x5 x1) (fun r29 => if r29 = true then ck x5 40 (if (M.1 8 x5.toNatClampNeg) ≤ x2 then f_X12_lean_73 n73 x1 x2 x3 x4 (x5 + 1) M
          else bq (f_X12_loopRow M x5 x4) (fun r35 => bq (f_X12_rowAt x5 r35) (fun r38 => bq (f_X12_loopRow M x5 x2) (fun r41 => bq (f_X12_rowAt x5 r41) (fun r44 => f_X12_lean_135 (f_X12_lean_73 n73) 100000 x1 x2 x3 x4 x5 r38 r44 0 M)))))
        else f_X12_lean_73 n73 x1 x2 x3 x4 (x5 + 1) M)
def f_X12_lean (M : Mem) (x1 : Int32) (x2 : Int32) (x3 : Int32) : Option (Int32 × Mem) :=
  bq (f_X12_isNode M x1) (fun r1 => if r1 = true then bq (f_X12_in x2.toInt64 0 3) (fun r5 => if r5 = true then bq (f_X12_in x3.toInt64 (-20) 20) (fun r9 => if r9 = true then bq (f_X12_isLoop M x1) (fun r13 => if r13 = true then ck x1 40 (if x2 = (M.1 8 x1.toNatClampNeg) then some ((-1), M)
          else bm (f_X12_keepTried M) (fun M20 => f_X12_lean_73 100000 x1 x2 x3 (M.1 8 x1.toNatClampNeg) 0 M20))
        else bd (f_X12_meets M 3) (fun r22 M23 => some (r22, M23)))
      else some ((-1), M))
    else some ((-1), M))
  else some ((-1), M))
def f_X12_turnBack_38 (k2 : Int32 → Int32 → Mem → Option Mem) : Nat → Int32 → Int32 → Int32 → Int32 → Mem → Option Mem
  | 0, _, _, _, _, _ => none
  | n38 + 1, x1, x2, x3, x4, M => if 5 ≤ x4 then k2 x1 (x2 + 1) M
          else ck (x3 + x4) 4480 (ck (x3 + x4) 4480 (f_X12_turnBack_38 k2 n38 x1 x2 x3 (x4 + 1) (sI M 31 (x3 + x4).toNatClampNeg (-(M.1 31 (x3 + x4).toNatClampNeg)))))
def f_X12_turnBack_2  : Nat → Int32 → Int32 → Mem → Option Mem
  | 0, _, _, _ => none
  | n2 + 1, x1, x2, M => if (M.1 102 0) ≤ x2 then some M
      else bq (f_X12_isActIn M x2 x1) (fun r2 => if r2 = true then ck x1 40 (bq (f_X12_loopRow M x2 (M.1 8 x1.toNatClampNeg)) (fun r7 => bq (f_X12_rowAt x2 r7) (fun r10 => f_X12_turnBack_38 (f_X12_turnBack_2 n2) 100000 x1 x2 r10 0 M)))
        else f_X12_turnBack_2 n2 x1 (x2 + 1) M)
def f_X12_turnBack (M : Mem) (x1 : Int32) : Option Mem :=
  f_X12_turnBack_2 100000 x1 0 M
def f_X12_back (M : Mem) (x1 : Int32) : Option (Int32 × Mem) :=
  bq (f_X12_isNode M x1) (fun r1 => if r1 = true then bq (f_X12_isLoop M x1) (fun r5 => if r5 = true then bm (f_X12_keepTried M) (fun M10 => bm (f_X12_turnBack M10 x1) (fun M13 => bd (f_X12_turned M13) (fun r15 M16 => some (r15, M16))))
    else bd (f_X12_meets M 3) (fun r18 M19 => some (r18, M19)))
  else some ((-1), M))
def f_X12_shift (M : Mem) (x1 : Int32) (x2 : Int32) (x3 : Int32) : Option (Int32 × Mem) :=
  bq (f_X12_isNode M x1) (fun r1 => if r1 = true then bq (f_X12_in x2.toInt64 0 3) (fun r5 => if r5 = true then bq (f_X12_in x3.toInt64 (-400) 400) (fun r9 => if r9 = true then ck x1 40 (if (M.1 6 x1.toNatClampNeg) = 3 then ck x1 40 (if x2 < (M.1 8 x1.toNatClampNeg) then bq (f_X12_loopRow M x1 x2) (fun r17 => bq (f_X12_rowAt x1 r17) (fun r20 => ck r20 4480 (bq (f_X12_in ((M.1 31 r20.toNatClampNeg) + x3).toInt64 (-100000) 100000) (fun r24 => if r24 = true then bm (f_X12_keepTried M) (fun M29 => ck r20 4480 (ck r20 4480 (bd (f_X12_turned (sI M29 31 r20.toNatClampNeg ((M29.1 31 r20.toNatClampNeg) + x3))) (fun r33 M34 => some (r33, M34)))))
            else some ((-6), M)))))
          else some ((-1), M))
        else bd (f_X12_meets M 3) (fun r36 M37 => some (r36, M37)))
      else some ((-1), M))
    else some ((-1), M))
  else some ((-1), M))
def f_X12_tiles_43 (k33 : Int32 → Int32 → Int32 → Int32 → Int32 → Int32 → Mem → Option (Bool × Mem)) : Nat → Int32 → Int32 → Int32 → Int32 → Int32 → Int32 → Int32 → Mem → Option (Bool × Mem)
  | 0, _, _, _, _, _, _, _, _ => none
  | n43 + 1, x1, x2, x3, x4, x5, x6, x7, M => if 7 ≤ x7 then k33 x1 x2 x3 x4 x5 (x6 + (-1)) M
          else bq (f_X12_rowAt x1 (x6 + x3)) (fun r11 => bq (f_X12_rowAt x1 x6) (fun r14 => ck (r14 + x7) 4480 (ck (r11 + x7) 4480 (f_X12_tiles_43 k33 n43 x1 x2 x3 x4 x5 x6 (x7 + 1) (sI M 31 (r11 + x7).toNatClampNeg (M.1 31 (r14 + x7).toNatClampNeg))))))
def f_X12_tiles_163 (k139 : Int32 → Int32 → Int32 → Int32 → Int32 → Int32 → Mem → Option (Bool × Mem)) : Nat → Int32 → Int32 → Int32 → Int32 → Int32 → Int32 → Int32 → Int32 → Mem → Option (Bool × Mem)
  | 0, _, _, _, _, _, _, _, _, _ => none
  | n163 + 1, x1, x2, x3, x4, x5, x6, x7, x8, M => if 6 ≤ x8 then bq (f_X12_rowAt x1 (x5 + x6)) (fun r32 => ck (r32 + 5) 4480 (if (M.1 31 (r32 + 5).toNatClampNeg) ≤ 400 then k139 x1 x2 x3 x4 x5 (x6 + 1) M
                    else some (false, M)))
                  else bq (f_X12_rowAt x1 (x5 + x6)) (fun r37 => ck (x7 + x8) 4480 (if x8 = 5 then ck (r37 + x8) 4480 (f_X12_tiles_163 k139 n163 x1 x2 x3 x4 x5 x6 x7 (x8 + 1) (sI M 31 (r37 + x8).toNatClampNeg ((M.1 31 (x7 + x8).toNatClampNeg) * x4)))
                    else ck (r37 + x8) 4480 (f_X12_tiles_163 k139 n163 x1 x2 x3 x4 x5 x6 x7 (x8 + 1) (sI M 31 (r37 + x8).toNatClampNeg ((M.1 31 (x7 + x8).toNatClampNeg) * 1)))))
def f_X12_tiles_139  : Nat → Int32 → Int32 → Int32 → Int32 → Int32 → Int32 → Mem → Option (Bool × Mem)
  | 0, _, _, _, _, _, _, _ => none
  | n139 + 1, x1, x2, x3, x4, x5, x6, M => if x3 ≤ x6 then some (true, M)
              else bq (f_X12_loopRow M x1 (x2 + x6)) (fun r25 => bq (f_X12_rowAt x1 r25) (fun r28 => f_X12_tiles_163 (f_X12_tiles_139 n139) 100000 x1 x2 x3 x4 x5 x6 r28 0 M))
def f_X12_tiles_105  : Nat → Int32 → Int32 → Int32 → Int32 → Int32 → Int32 → Mem → Option (Bool × Mem)
  | 0, _, _, _, _, _, _, _ => none
  | n105 + 1, x1, x2, x3, x4, x5, x6, M => if x3 ≤ x6 then f_X12_tiles_139 100000 x1 x2 x3 x4 x5 0 M
          else bq (f_X12_rowAt x1 (x5 + x6)) (fun r20 => ck (r20 + 6) 4480 (f_X12_tiles_105 n105 x1 x2 x3 x4 x5 (x6 + 1) (sI M 31 (r20 + 6).toNatClampNeg (-9))))
def f_X12_tiles_33  : Nat → Int32 → Int32 → Int32 → Int32 → Int32 → Int32 → Mem → Option (Bool × Mem)
  | 0, _, _, _, _, _, _, _ => none
  | n33 + 1, x1, x2, x3, x4, x5, x6, M => if x6 < x5 then ck x1 40 (ck x1 40 (f_X12_tiles_105 100000 x1 x2 x3 x4 x5 0 (sI M 30 x1.toNatClampNeg ((M.1 30 x1.toNatClampNeg) + x3))))
      else f_X12_tiles_43 (f_X12_tiles_33 n33) 100000 x1 x2 x3 x4 x5 x6 0 M
def f_X12_tiles (M : Mem) (x1 : Int32) (x2 : Int32) (x3 : Int32) (x4 : Int32) : Option (Bool × Mem) :=
  ck x1 40 (if ((M.1 30 x1.toNatClampNeg) + x3) ≤ 16 then bq (f_X12_loopRow M x1 x2) (fun r3 => ck x1 40 (f_X12_tiles_33 100000 x1 x2 x3 x4 r3 ((M.1 30 x1.toNatClampNeg) - 1) M))
  else some (false, M))
def f_X12_tile_65  : Nat → Int32 → Int32 → Int32 → Int32 → Int32 → Mem → Option (Int32 × Mem)
  | 0, _, _, _, _, _, _ => none
  | n65 + 1, x1, x2, x3, x4, x5, M => if (M.1 102 0) ≤ x5 then bd (f_X12_turned M) (fun r25 M26 => some (r25, M26))
      else bq (f_X12_isActIn M x5 x1) (fun r28 => if r28 = true then ck x5 40 (if (M.1 8 x5.toNatClampNeg) < (x4 + x2) then f_X12_tile_65 n65 x1 x2 x3 x4 (x5 + 1) M
          else bd (f_X12_tiles M x5 x4 x2 x3) (fun r34 M35 => if r34 = true then f_X12_tile_65 n65 x1 x2 x3 x4 (x5 + 1) M35
            else bm (f_X12_giveTried M35) (fun M39 => some ((-2), M39))))
        else f_X12_tile_65 n65 x1 x2 x3 x4 (x5 + 1) M)
def f_X12_tile (M : Mem) (x1 : Int32) (x2 : Int32) (x3 : Int32) : Option (Int32 × Mem) :=
  bq (f_X12_isNode M x1) (fun r1 => if r1 = true then bq (f_X12_in x2.toInt64 1 4) (fun r5 => if r5 = true then bq (f_X12_in x3.toInt64 2 20) (fun r9 => if r9 = true then bq (f_X12_isLoop M x1) (fun r13 => if r13 = true then ck x1 40 (bm (f_X12_keepTried M) (fun M19 => f_X12_tile_65 100000 x1 x2 x3 (M.1 8 x1.toNatClampNeg) 0 M19))
        else bd (f_X12_meets M 3) (fun r21 M22 => some (r21, M22)))
      else some ((-1), M))
    else some ((-1), M))
  else some ((-1), M))
def f_X12_part_37  : Nat → Int32 → Int32 → Int32 → Mem → Option (Int32 × Mem)
  | 0, _, _, _, _ => none
  | n37 + 1, x1, x2, x3, M => if (M.1 102 0) ≤ x3 then bd (f_X12_turned M) (fun r17 M18 => some (r17, M18))
      else bq (f_X12_isActIn M x3 x1) (fun r20 => if r20 = true then bq (f_X12_loopRow M x3 x2) (fun r24 => bq (f_X12_rowAt x3 (r24 - 1)) (fun r27 => ck r27 4480 (bq (f_X12_placeOf M x3 (x2 + 1)) (fun r31 => bq (f_X12_in ((100 * (M.1 31 r27.toNatClampNeg).toInt64) + r31.toInt64) (-100000) 100000) (fun r34 => if r34 = true then ck r27 4480 (f_X12_part_37 n37 x1 x2 (x3 + 1) (sI M 31 r27.toNatClampNeg ((100 * (M.1 31 r27.toNatClampNeg).toInt64) + r31.toInt64).toInt32))
          else bm (f_X12_giveTried M) (fun M40 => some ((-6), M40)))))))
        else f_X12_part_37 n37 x1 x2 (x3 + 1) M)
def f_X12_part (M : Mem) (x1 : Int32) : Option (Int32 × Mem) :=
  bq (f_X12_isNode M x1) (fun r1 => if r1 = true then bq (f_X12_isLoop M x1) (fun r5 => if r5 = true then ck x1 40 (bm (f_X12_keepTried M) (fun M11 => f_X12_part_37 100000 x1 (M.1 8 x1.toNatClampNeg) 0 M11))
    else bd (f_X12_meets M 3) (fun r13 M14 => some (r13, M14)))
  else some ((-1), M))
def f_X12_firstActIn_2  : Nat → Int32 → Int32 → Mem → Option Int32
  | 0, _, _, _ => none
  | n2 + 1, x1, x2, M => if (M.1 102 0) ≤ x2 then some (-9)
      else bq (f_X12_isActIn M x2 x1) (fun r2 => if r2 = true then some x2
        else f_X12_firstActIn_2 n2 x1 (x2 + 1) M)
def f_X12_firstActIn (M : Mem) (x1 : Int32) : Option Int32 :=
  f_X12_firstActIn_2 100000 x1 0 M
def f_X12_join_34   (M : Mem) : Option (Int32 × Mem) :=
  bd (f_X12_meets M 3) (fun r36 M37 => some (r36, M37))
def f_X12_join_109  : Nat → Int32 → Int32 → Int32 → Int32 → Mem → Option (Int32 × Mem)
  | 0, _, _, _, _, _ => none
  | n109 + 1, x2, x4, x5, x6, M => if (M.1 102 0) ≤ x6 then bd (f_X12_turned M) (fun r40 M41 => some (r40, M41))
      else bq (f_X12_isActIn M x6 x2) (fun r43 => if r43 = true then bq (f_X12_loopRow M x6 x4) (fun r47 => bq (f_X12_rowAt x6 (r47 - 1)) (fun r50 => ck r50 4480 (f_X12_join_109 n109 x2 x4 x5 (x6 + 1) (sI M 31 r50.toNatClampNeg x5))))
        else f_X12_join_109 n109 x2 x4 x5 (x6 + 1) M)
def f_X12_join (M : Mem) (x1 : Int32) (x2 : Int32) : Option (Int32 × Mem) :=
  bq (f_X12_isNode M x1) (fun r1 => if r1 = true then bq (f_X12_isNode M x2) (fun r5 => if r5 = true then bq (f_X12_isLoop M x1) (fun r9 => if r9 = true then bq (f_X12_isLoop M x2) (fun r13 => if r13 = true then bq (f_X12_firstActIn M x1) (fun r17 => ck x1 40 (ck x2 40 (if (M.1 7 x1.toNatClampNeg) = (M.1 7 x2.toNatClampNeg) then if x2 ≤ x1 then some ((-1), M)
            else if r17 = (-9) then some ((-1), M)
              else ck x1 40 (bm (f_X12_keepTried M) (fun M27 => bq (f_X12_loopRow M27 r17 (M.1 8 x1.toNatClampNeg)) (fun r29 => bq (f_X12_rowAt r17 (r29 - 1)) (fun r32 => ck r32 4480 (f_X12_join_109 100000 x2 (M.1 8 x1.toNatClampNeg) (M27.1 31 r32.toNatClampNeg) 0 M27)))))
          else some ((-1), M))))
        else f_X12_join_34 M)
      else f_X12_join_34 M)
    else some ((-1), M))
  else some ((-1), M))
def f_X12_undo_56  : Nat → Int32 → Mem → Option (Int32 × Mem)
  | 0, _, _ => none
  | n56 + 1, x1, M => if 4480 ≤ x1 then some ((M.1 109 0), M)
          else ck ((4480 * (M.1 109 0)) + x1) 89600 (ck x1 4480 (f_X12_undo_56 n56 (x1 + 1) (sI M 31 x1.toNatClampNeg (M.1 33 ((4480 * (M.1 109 0)) + x1).toNatClampNeg))))
def f_X12_undo_22  : Nat → Int32 → Mem → Option (Int32 × Mem)
  | 0, _, _ => none
  | n22 + 1, x1, M => if 40 ≤ x1 then f_X12_undo_56 100000 0 M
      else ck ((40 * (M.1 109 0)) + x1) 800 (ck x1 40 (f_X12_undo_22 n22 (x1 + 1) (sI M 30 x1.toNatClampNeg (M.1 32 ((40 * (M.1 109 0)) + x1).toNatClampNeg))))
def f_X12_undo (M : Mem) : Option (Int32 × Mem) :=
  if (M.1 109 0) = 0 then some ((-4), M)
  else f_X12_undo_22 100000 0 (sI M 109 0 ((M.1 109 0) - 1))
def f_X12_order (M : Mem) (x1 : Int32) (x2 : Int32) (x3 : Int32) : Option (Int32 × Mem) :=
  bq (f_X12_isNode M x1) (fun r1 => if r1 = true then bq (f_X12_in x3.toInt64 0 6) (fun r5 => if r5 = true then ck x1 40 (if (M.1 6 x1.toNatClampNeg) = 3 then ck x1 40 (bq (f_X12_in x2.toInt64 0 ((M.1 30 x1.toNatClampNeg) - 1).toInt64) (fun r12 => if r12 = true then bq (f_X12_rowAt x1 x2) (fun r16 => ck (r16 + x3) 4480 (if 5 ≤ x3 then some (((M.1 31 (r16 + x3).toNatClampNeg) + 0), M)
          else some (((M.1 31 (r16 + x3).toNatClampNeg) + 1000000), M)))
        else some ((-9), M)))
      else bd (f_X12_meets M 3) (fun r21 M22 => some (r21, M22)))
    else some ((-1), M))
  else some ((-1), M))
def f_X12_cutDown (x0 : Int64) (x2 : Int32) : Option Int64 :=
  nzL x2.toInt64 (nzL x2.toInt64 (if 0 ≤ (x0 - x0 / x2.toInt64 * x2.toInt64) then some ((x0 / x2.toInt64))
  else some (((x0 / x2.toInt64) - 1))))
def f_X12_isAhead_109  (x1 : Int32) (x2 : Int32) (x3 : Int32) (x4 : Int32) (M : Mem) : Option Bool :=
  if x3 = x4 then if x2 ≤ x1 then some false
          else some true
        else if x4 ≤ x3 then some false
          else some true
def f_X12_isAhead_28  : Nat → Int32 → Int32 → Int32 → Int32 → Int32 → Mem → Option Bool
  | 0, _, _, _, _, _, _ => none
  | n28 + 1, x1, x2, x3, x4, x5, M => if x3 ≤ x5 then f_X12_isAhead_109 x1 x2 x3 x4 M
      else if x4 ≤ x5 then f_X12_isAhead_109 x1 x2 x3 x4 M
        else ck ((16 * x1) + x5) 6400 (ck ((16 * x2) + x5) 6400 (if (M.2.1 37 ((16 * x1) + x5).toNatClampNeg) = (M.2.1 37 ((16 * x2) + x5).toNatClampNeg) then f_X12_isAhead_28 n28 x1 x2 x3 x4 (x5 + 1) M
          else ck ((16 * x1) + x5) 6400 (ck ((16 * x2) + x5) 6400 (if (M.2.1 37 ((16 * x2) + x5).toNatClampNeg) ≤ (M.2.1 37 ((16 * x1) + x5).toNatClampNeg) then some false
            else some true))))
def f_X12_isAhead (M : Mem) (x1 : Int32) (x2 : Int32) : Option Bool :=
  ck x1 401 (ck (M.1 23 x1.toNatClampNeg) 40 (ck x2 401 (ck (M.1 23 x2.toNatClampNeg) 40 (f_X12_isAhead_28 100000 x1 x2 (M.1 30 (M.1 23 x1.toNatClampNeg).toNatClampNeg) (M.1 30 (M.1 23 x2.toNatClampNeg).toNatClampNeg) 0 M))))
def f_X12_layOrder_49 (k19 : Int32 → Int32 → Int32 → Mem → Option Mem) : Nat → Int32 → Int32 → Int32 → Int32 → Int64 → Int32 → Mem → Option Mem
  | 0, _, _, _, _, _, _, _ => none
  | n49 + 1, x1, x2, x3, x4, x5, x7, M => if 4 ≤ x7 then ck (x4 + 5) 4480 (bq (f_X12_cutDown x5 (M.1 31 (x4 + 5).toNatClampNeg)) (fun r12 => ck ((16 * x1) + x3) 6400 (k19 x1 x2 (x3 + 1) (sL M 37 ((16 * x1) + x3).toNatClampNeg r12))))
              else ck ((x4 + 1) + x7) 4480 (ck ((4 * x1) + x7) 1604 (f_X12_layOrder_49 k19 n49 x1 x2 x3 x4 (x5 + ((M.1 31 ((x4 + 1) + x7).toNatClampNeg).toInt64 * (M.2.1 24 ((4 * x1) + x7).toNatClampNeg))) (x7 + 1) M))
def f_X12_layOrder_19 (k2 : Int32 → Mem → Option Mem) : Nat → Int32 → Int32 → Int32 → Mem → Option Mem
  | 0, _, _, _, _ => none
  | n19 + 1, x1, x2, x3, M => ck x2 40 (if (M.1 30 x2.toNatClampNeg) ≤ x3 then k2 (x1 + 1) M
          else bq (f_X12_rowAt x2 x3) (fun r5 => ck r5 4480 (f_X12_layOrder_49 (f_X12_layOrder_19 k2 n19) 100000 x1 x2 x3 r5 (M.1 31 r5.toNatClampNeg).toInt64 0 M)))
def f_X12_layOrder_140 (k130 : Int32 → Mem → Option Mem) : Nat → Int32 → Int32 → Mem → Option Mem
  | 0, _, _, _ => none
  | n140 + 1, x1, x2, M => if x2 ≤ 0 then ck x2 401 (k130 (x1 + 1) (sI M 38 x2.toNatClampNeg x1))
              else ck (x2 - 1) 401 (bq (f_X12_isAhead M x1 (M.1 38 (x2 - 1).toNatClampNeg)) (fun r21 => if r21 = true then ck (x2 - 1) 401 (ck x2 401 (f_X12_layOrder_140 k130 n140 x1 (x2 + (-1)) (sI M 38 x2.toNatClampNeg (M.1 38 (x2 - 1).toNatClampNeg))))
                else ck x2 401 (k130 (x1 + 1) (sI M 38 x2.toNatClampNeg x1))))
def f_X12_layOrder_195  : Nat → Int32 → Mem → Option Mem
  | 0, _, _ => none
  | n195 + 1, x1, M => if (M.1 106 0) ≤ x1 then some M
              else ck x1 401 (ck (M.1 38 x1.toNatClampNeg) 401 (f_X12_layOrder_195 n195 (x1 + 1) (sI M 39 (M.1 38 x1.toNatClampNeg).toNatClampNeg x1)))
def f_X12_layOrder_130  : Nat → Int32 → Mem → Option Mem
  | 0, _, _ => none
  | n130 + 1, x1, M => if (M.1 106 0) ≤ x1 then f_X12_layOrder_195 100000 0 M
          else f_X12_layOrder_140 (f_X12_layOrder_130 n130) 100000 x1 x1 M
def f_X12_layOrder_2  : Nat → Int32 → Mem → Option Mem
  | 0, _, _ => none
  | n2 + 1, x1, M => if (M.1 106 0) ≤ x1 then f_X12_layOrder_130 100000 0 M
      else ck x1 401 (f_X12_layOrder_19 (f_X12_layOrder_2 n2) 100000 x1 (M.1 23 x1.toNatClampNeg) 0 M)
def f_X12_layOrder (M : Mem) : Option Mem :=
  f_X12_layOrder_2 100000 0 M
def f_X12_isAllowed_27 (k20 : Int32 → Int32 → Mem → Option (Bool × Mem)) : Nat → Int32 → Int32 → Int32 → Mem → Option (Bool × Mem)
  | 0, _, _, _, _ => none
  | n27 + 1, x1, x2, x3, M => if 3 ≤ x3 then k20 x1 (x2 + 1) M
              else ck x2 401 (ck x1 401 (if (M.1 39 x2.toNatClampNeg) ≤ (M.1 39 x1.toNatClampNeg) then k20 x1 (x2 + 1) M
                else bq (f_X12_isNeed M x2 x1 x3) (fun r13 => if r13 = true then some (false, sI (sI (sI M 110 0 x2) 111 0 x1) 112 0 x3)
                  else f_X12_isAllowed_27 k20 n27 x1 x2 (x3 + 1) M)))
def f_X12_isAllowed_20 (k10 : Int32 → Mem → Option (Bool × Mem)) : Nat → Int32 → Int32 → Mem → Option (Bool × Mem)
  | 0, _, _, _ => none
  | n20 + 1, x1, x2, M => if x1 ≤ x2 then k10 (x1 + 1) M
          else f_X12_isAllowed_27 (f_X12_isAllowed_20 k10 n20) 100000 x1 x2 0 M
def f_X12_isAllowed_10  : Nat → Int32 → Mem → Option (Bool × Mem)
  | 0, _, _ => none
  | n10 + 1, x1, M => if (M.1 106 0) ≤ x1 then some (true, M)
      else f_X12_isAllowed_20 (f_X12_isAllowed_10 n10) 100000 x1 0 M
def f_X12_isAllowed (M : Mem) : Option (Bool × Mem) :=
  bm (f_X12_layOrder M) (fun M2 => bm (f_X12_touchAll M2) (fun M5 => f_X12_isAllowed_10 100000 0 M5))
def f_X12_meetsAt (M : Mem) (x1 : Int32) (x2 : Int32) : Option Int32 :=
  ck ((3 * x1) + x2) 120 (ck ((3 * x1) + x2) 120 (bq (f_X12_valueOf M (M.1 12 ((3 * x1) + x2).toNatClampNeg)) (fun r3 => ck ((3 * x1) + x2) 120 (bq (f_X12_valueOf M (M.1 13 ((3 * x1) + x2).toNatClampNeg)) (fun r7 => bq (f_X12_lacks M (M.1 11 ((3 * x1) + x2).toNatClampNeg) r3 r7) (fun r10 => some r10))))))
def f_X12_placeAt (M : Mem) (x1 : Int32) (x2 : Int32) : Option Int32 :=
  ck ((3 * x1) + x2) 120 (ck ((3 * x1) + x2) 120 (bq (f_X12_valueOf M (M.1 12 ((3 * x1) + x2).toNatClampNeg)) (fun r3 => ck ((3 * x1) + x2) 120 (bq (f_X12_valueOf M (M.1 13 ((3 * x1) + x2).toNatClampNeg)) (fun r7 => bq (f_X12_at M (M.1 11 ((3 * x1) + x2).toNatClampNeg) r3 r7) (fun r10 => some r10))))))
def f_X12_workedOut (M : Mem) (x1 : Int32) (x2 : Int32) : Option Int64 :=
  if x1 = 0 then some ((M.2.1 113 0))
  else if x1 = 1 then some (((M.2.1 113 0) + (M.2.1 114 0)))
  else if x1 = 2 then some (((M.2.1 113 0) * (M.2.1 114 0)))
  else if x1 = 3 then if (M.2.1 114 0) = (-1) then some ((-(M.2.1 113 0)))
    else nzL (M.2.1 114 0) (some (((M.2.1 113 0) / (M.2.1 114 0))))
  else if x1 = 4 then some x2.toInt64
  else some (((M.2.1 113 0) + x2.toInt64))
def f_X12_ended (M : Mem) (x1 : Int32) : Option Int32 :=
  bq (f_X12_in x1.toInt64 0 5) (fun r1 => if r1 = true then ck x1 6 (some ((M.1 40 x1.toNatClampNeg)))
  else some (-1))
def f_X12_fetches_112  : Nat → Int32 → Int64 → Int64 → Bool → Int32 → Mem → Option (Bool × Mem)
  | 0, _, _, _, _, _, _ => none
  | n112 + 1, x1, x2, x4, x8, x9, M => if x9 ≤ 0 then ck 0 17 (ck 0 17 (ck 0 17 (some (x8, sL (sL (sI M 41 (0 : Int32).toNatClampNeg x1) 42 (0 : Int32).toNatClampNeg x2) 43 (0 : Int32).toNatClampNeg x4))))
                else ck (x9 - 1) 17 (ck x9 17 (ck (x9 - 1) 17 (ck x9 17 (ck (x9 - 1) 17 (ck x9 17 (f_X12_fetches_112 n112 x1 x2 x4 x8 (x9 + (-1)) (sL (sL (sI M 41 x9.toNatClampNeg (M.1 41 (x9 - 1).toNatClampNeg)) 42 x9.toNatClampNeg ((sI M 41 x9.toNatClampNeg (M.1 41 (x9 - 1).toNatClampNeg)).2.1 42 (x9 - 1).toNatClampNeg)) 43 x9.toNatClampNeg ((sL (sI M 41 x9.toNatClampNeg (M.1 41 (x9 - 1).toNatClampNeg)) 42 x9.toNatClampNeg ((sI M 41 x9.toNatClampNeg (M.1 41 (x9 - 1).toNatClampNeg)).2.1 42 (x9 - 1).toNatClampNeg)).2.1 43 (x9 - 1).toNatClampNeg))))))))
def f_X12_fetches_94  (x1 : Int32) (x2 : Int64) (x4 : Int64) (x7 : Int32) (x8 : Bool) (M : Mem) : Option (Bool × Mem) :=
  if x8 = true then f_X12_fetches_112 100000 x1 x2 x4 x8 ((M.1 115 0) - 1) M
            else f_X12_fetches_112 100000 x1 x2 x4 x8 x7 M
def f_X12_fetches_68  (x1 : Int32) (x2 : Int64) (x4 : Int64) (x6 : Int32) (x7 : Int32) (s0 : Bool) (M : Mem) : Option (Bool × Mem) :=
  if s0 = true then if x6 ≤ (M.1 115 0) then f_X12_fetches_94 x1 x2 x4 x7 s0 M
            else f_X12_fetches_94 x1 x2 x4 x7 s0 (sI M 115 0 ((M.1 115 0) + 1))
          else f_X12_fetches_94 x1 x2 x4 x7 s0 M
def f_X12_fetches_54  (x1 : Int32) (x2 : Int64) (x4 : Int64) (x6 : Int32) (x7 : Int32) (M : Mem) : Option (Bool × Mem) :=
  if x7 = (M.1 115 0) then f_X12_fetches_68 x1 x2 x4 x6 x7 true M
        else f_X12_fetches_68 x1 x2 x4 x6 x7 false M
def f_X12_fetches_3  : Nat → Int32 → Int64 → Int64 → Int32 → Int32 → Mem → Option (Bool × Mem)
  | 0, _, _, _, _, _, _ => none
  | n3 + 1, x1, x2, x4, x6, x7, M => if (M.1 115 0) ≤ x7 then f_X12_fetches_54 x1 x2 x4 x6 x7 M
      else ck x7 17 (if (M.1 41 x7.toNatClampNeg) = x1 then ck x7 17 (if (M.2.1 42 x7.toNatClampNeg) = x2 then ck x7 17 (if (M.2.1 43 x7.toNatClampNeg) = x4 then f_X12_fetches_54 x1 x2 x4 x6 x7 M
            else f_X12_fetches_3 n3 x1 x2 x4 x6 (x7 + 1) M)
          else f_X12_fetches_3 n3 x1 x2 x4 x6 (x7 + 1) M)
        else f_X12_fetches_3 n3 x1 x2 x4 x6 (x7 + 1) M)
def f_X12_fetches (M : Mem) (x1 : Int32) (x2 : Int64) (x4 : Int64) (x6 : Int32) : Option (Bool × Mem) :=
  f_X12_fetches_3 100000 x1 x2 x4 x6 0 M
def f_X12_fetchedMany_31 (k10 : Int32 → Int32 → Int32 → Int32 → Mem → Option (Int32 × Mem)) : Nat → Int32 → Int32 → Int32 → Int32 → Int32 → Int32 → Mem → Option (Int32 × Mem)
  | 0, _, _, _, _, _, _, _ => none
  | n31 + 1, x1, x2, x3, x4, x5, x6, M => if 4 ≤ x6 then k10 x1 x2 x3 (x4 + 1) M
          else nzI 3 (bq (f_X12_hasAim M x5 (x6 - x6 / 3 * 3)) (fun r5 => if r5 = true then ck x5 401 (ck ((3 * (M.1 23 x5.toNatClampNeg)) + (x6 - x6 / 3 * 3)) 120 (ck ((3 * x5) + (x6 - x6 / 3 * 3)) 1200 (ck ((3 * x5) + (x6 - x6 / 3 * 3)) 1200 (bq (f_X12_cutDown (M.2.1 29 ((3 * x5) + (x6 - x6 / 3 * 3)).toNatClampNeg) x2) (fun r13 => bd (f_X12_fetches M (M.1 11 ((3 * (M.1 23 x5.toNatClampNeg)) + (x6 - x6 / 3 * 3)).toNatClampNeg) (M.2.1 28 ((3 * x5) + (x6 - x6 / 3 * 3)).toNatClampNeg) r13 x1) (fun r16 M17 => if r16 = true then f_X12_fetchedMany_31 k10 n31 x1 x2 (x3 + 1) x4 x5 (x6 + 1) M17
              else f_X12_fetchedMany_31 k10 n31 x1 x2 (x3 + 0) x4 x5 (x6 + 1) M17))))))
            else f_X12_fetchedMany_31 k10 n31 x1 x2 x3 x4 x5 (x6 + 1) M))
def f_X12_fetchedMany_10  : Nat → Int32 → Int32 → Int32 → Int32 → Mem → Option (Int32 × Mem)
  | 0, _, _, _, _, _ => none
  | n10 + 1, x1, x2, x3, x4, M => if (M.1 106 0) ≤ x4 then some (x3, M)
      else ck x4 401 (f_X12_fetchedMany_31 (f_X12_fetchedMany_10 n10) 100000 x1 x2 x3 x4 (M.1 38 x4.toNatClampNeg) 1 M)
def f_X12_fetchedMany (M : Mem) (x1 : Int32) (x2 : Int32) : Option (Int32 × Mem) :=
  f_X12_fetchedMany_10 100000 x1 x2 0 0 (sI M 115 0 0)
def f_X12_make (M : Mem) (x1 : Int32) (x2 : Int32) : Option Mem :=
  if x2 = 4 then bm (f_X12_turnBack M x1) (fun M7 => some M7)
  else if x2 ≤ 0 then some M
    else bm (f_X12_swapRows M x1 x2) (fun M4 => some M4)
def f_X12_goesOnWith_59  : Nat → Int32 → Int32 → Int32 → Int32 → Bool → Int32 → Mem → Option Bool
  | 0, _, _, _, _, _, _, _ => none
  | n59 + 1, x3, x4, x5, x6, x7, x8, M => if 4 ≤ x8 then some x7
      else if x7 = true then ck ((4 * x5) + x8) 1604 (ck ((4 * x4) + x8) 1604 (ck ((4 * x6) + x8) 1604 (ck ((4 * x3) + x8) 1604 (if ((M.2.1 24 ((4 * x5) + x8).toNatClampNeg) - (M.2.1 24 ((4 * x4) + x8).toNatClampNeg)) = ((M.2.1 24 ((4 * x6) + x8).toNatClampNeg) - (M.2.1 24 ((4 * x3) + x8).toNatClampNeg)) then f_X12_goesOnWith_59 n59 x3 x4 x5 x6 true (x8 + 1) M
          else f_X12_goesOnWith_59 n59 x3 x4 x5 x6 false (x8 + 1) M))))
        else f_X12_goesOnWith_59 n59 x3 x4 x5 x6 false (x8 + 1) M
def f_X12_goesOnWith (M : Mem) (x1 : Int32) (x2 : Int32) : Option Bool :=
  ck x1 401 (ck (x2 - 1) 401 (ck x2 401 (ck (M.1 38 x2.toNatClampNeg) 401 (ck (M.1 38 x1.toNatClampNeg) 401 (if (M.1 23 (M.1 38 x2.toNatClampNeg).toNatClampNeg) = (M.1 23 (M.1 38 x1.toNatClampNeg).toNatClampNeg) then ck (x1 + 1) 401 (f_X12_goesOnWith_59 100000 (M.1 38 x1.toNatClampNeg) (M.1 38 (x2 - 1).toNatClampNeg) (M.1 38 x2.toNatClampNeg) (M.1 38 (x1 + 1).toNatClampNeg) true 0 M)
  else some false)))))
def f_X12_layLines_44 (k11 : Int32 → Mem → Option Mem) : Nat → Int32 → Int32 → Mem → Option Mem
  | 0, _, _, _ => none
  | n44 + 1, x1, x2, M => if (M.1 106 0) ≤ x1 then k11 x1 M
          else bq (f_X12_goesOnWith M x2 x1) (fun r8 => if r8 = true then f_X12_layLines_44 k11 n44 (x1 + 1) x2 M
            else k11 x1 M)
def f_X12_layLines_11  : Nat → Int32 → Mem → Option Mem
  | 0, _, _ => none
  | n11 + 1, x1, M => if (M.1 106 0) ≤ x1 then ck (M.1 116 0) 401 (some (sI M 44 (M.1 116 0).toNatClampNeg (M.1 106 0)))
      else ck (M.1 116 0) 401 (f_X12_layLines_44 (f_X12_layLines_11 n11) 100000 (x1 + 1) x1 (sI (sI M 44 (M.1 116 0).toNatClampNeg x1) 116 0 (((sI M 44 (M.1 116 0).toNatClampNeg x1).1 116 0) + 1)))
def f_X12_layLines (M : Mem) : Option Mem :=
  bm (f_X12_layOrder M) (fun M2 => f_X12_layLines_11 100000 0 (sI M2 116 0 0))
def f_X12_count (M : Mem) (x1 : Int32) : Option Int32 :=
  if x1 = 0 then some ((M.1 101 0))
  else if x1 = 1 then some ((M.1 102 0))
  else if x1 = 2 then some ((M.1 103 0))
  else if x1 = 3 then some ((M.1 104 0))
  else if x1 = 4 then some ((M.1 109 0))
  else some (-1)
def f_X12_digest_44 (k33 : Int64 → Int32 → Mem → Option Int64) : Nat → Int64 → Int32 → Int32 → Mem → Option Int64
  | 0, _, _, _, _ => none
  | n44 + 1, x1, x3, x4, M => if 5 ≤ x4 then k33 x1 (x3 + 1) M
              else bq (f_X12_node M x3 x4) (fun r5 => f_X12_digest_44 k33 n44 ((31 * x1) + r5.toInt64) x3 (x4 + 1) M)
def f_X12_digest_114 (k90 : Int64 → Int32 → Int32 → Mem → Option Int64) : Nat → Int64 → Int32 → Int32 → Int32 → Mem → Option Int64
  | 0, _, _, _, _, _ => none
  | n114 + 1, x1, x3, x4, x5, M => if 7 ≤ x5 then k90 x1 x3 (x4 + 1) M
                      else bq (f_X12_rowAt x3 x4) (fun r15 => ck (r15 + x5) 4480 (f_X12_digest_114 k90 n114 ((31 * x1) + (M.1 31 (r15 + x5).toNatClampNeg).toInt64) x3 x4 (x5 + 1) M))
def f_X12_digest_90 (k79 : Int64 → Int32 → Mem → Option Int64) : Nat → Int64 → Int32 → Int32 → Mem → Option Int64
  | 0, _, _, _, _ => none
  | n90 + 1, x1, x3, x4, M => ck x3 40 (if (M.1 30 x3.toNatClampNeg) ≤ x4 then k79 x1 (x3 + 1) M
                  else ck x3 40 (if (M.1 6 x3.toNatClampNeg) = 3 then f_X12_digest_114 (f_X12_digest_90 k79 n90) 100000 x1 x3 x4 0 M
                    else k79 x1 (x3 + 1) M))
def f_X12_digest_223 (k174 : Int64 → Int32 → Int32 → Mem → Option Int64) : Nat → Int64 → Int32 → Int32 → Int32 → Int32 → Mem → Option Int64
  | 0, _, _, _, _, _, _ => none
  | n223 + 1, x1, x3, x4, x5, x6, M => if x5 ≤ x6 then k174 x1 x3 (x4 + 1) M
                          else bq (f_X12_at M x3 x4.toInt64 x6.toInt64) (fun r24 => ck r24 3200 (f_X12_digest_223 k174 n223 ((31 * x1) + (M.2.1 22 r24.toNatClampNeg)) x3 x4 x5 (x6 + 1) M))
def f_X12_digest_174 (k163 : Int64 → Int32 → Mem → Option Int64) : Nat → Int64 → Int32 → Int32 → Mem → Option Int64
  | 0, _, _, _, _ => none
  | n174 + 1, x1, x3, x4, M => ck x3 8 (if (M.1 20 x3.toNatClampNeg) ≤ x4 then k163 x1 (x3 + 1) M
                      else ck ((20 * x3) + x4) 160 (if (M.1 21 ((20 * x3) + x4).toNatClampNeg) = (-9) then f_X12_digest_223 (f_X12_digest_174 k163 n174) 100000 ((31 * x1) + (-1 : Int32).toInt64) x3 x4 (M.1 21 ((20 * x3) + x4).toNatClampNeg) 0 M
                        else f_X12_digest_223 (f_X12_digest_174 k163 n174) 100000 ((31 * x1) + (M.1 21 ((20 * x3) + x4).toNatClampNeg).toInt64) x3 x4 (M.1 21 ((20 * x3) + x4).toNatClampNeg) 0 M))
def f_X12_digest_163  : Nat → Int64 → Int32 → Mem → Option Int64
  | 0, _, _, _ => none
  | n163 + 1, x1, x3, M => if (M.1 104 0) ≤ x3 then some x1
                  else f_X12_digest_174 (f_X12_digest_163 n163) 100000 x1 x3 0 M
def f_X12_digest_79  : Nat → Int64 → Int32 → Mem → Option Int64
  | 0, _, _, _ => none
  | n79 + 1, x1, x3, M => if (M.1 102 0) ≤ x3 then f_X12_digest_163 100000 x1 0 M
              else f_X12_digest_90 (f_X12_digest_79 n79) 100000 x1 x3 0 M
def f_X12_digest_33  : Nat → Int64 → Int32 → Mem → Option Int64
  | 0, _, _, _ => none
  | n33 + 1, x1, x3, M => if (M.1 102 0) ≤ x3 then f_X12_digest_79 100000 x1 0 M
          else f_X12_digest_44 (f_X12_digest_33 n33) 100000 x1 x3 0 M
def f_X12_digest_6  : Nat → Int64 → Int32 → Mem → Option Int64
  | 0, _, _, _ => none
  | n6 + 1, x1, x3, M => if 3 ≤ x3 then f_X12_digest_33 100000 x1 0 M
      else ck x3 3 (f_X12_digest_6 n6 ((31 * x1) + (M.1 2 x3.toNatClampNeg).toInt64) (x3 + 1) M)
def f_X12_digest (M : Mem) : Option Int64 :=
  f_X12_digest_6 100000 17 0 M
def f_X12_makeNode_58  : Nat → Int32 → Mem → Option (Int32 × Mem)
  | 0, _, _ => none
  | n58 + 1, x5, M => if 3 ≤ x5 then bm (f_X12_firstOrders (sI M 102 0 ((M.1 102 0) + 1))) (fun M11 => some (((M11.1 102 0) - 1), M11))
      else ck ((3 * (M.1 102 0)) + x5) 120 (f_X12_makeNode_58 n58 (x5 + 1) (sI M 11 ((3 * (M.1 102 0)) + x5).toNatClampNeg (-9)))
def f_X12_makeNode (M : Mem) (x1 : Int32) (x2 : Int32) (x3 : Int32) (x4 : Int32) : Option (Int32 × Mem) :=
  ck (M.1 102 0) 40 (ck ((sI M 6 (M.1 102 0).toNatClampNeg x1).1 102 0) 40 (bq (f_X12_depthIn (sI (sI M 6 (M.1 102 0).toNatClampNeg x1) 7 ((sI M 6 (M.1 102 0).toNatClampNeg x1).1 102 0).toNatClampNeg x2) x2) (fun r3 => ck ((sI (sI M 6 (M.1 102 0).toNatClampNeg x1) 7 ((sI M 6 (M.1 102 0).toNatClampNeg x1).1 102 0).toNatClampNeg x2).1 102 0) 40 (ck ((sI (sI (sI M 6 (M.1 102 0).toNatClampNeg x1) 7 ((sI M 6 (M.1 102 0).toNatClampNeg x1).1 102 0).toNatClampNeg x2) 8 ((sI (sI M 6 (M.1 102 0).toNatClampNeg x1) 7 ((sI M 6 (M.1 102 0).toNatClampNeg x1).1 102 0).toNatClampNeg x2).1 102 0).toNatClampNeg r3).1 102 0) 40 (ck ((sI (sI (sI (sI M 6 (M.1 102 0).toNatClampNeg x1) 7 ((sI M 6 (M.1 102 0).toNatClampNeg x1).1 102 0).toNatClampNeg x2) 8 ((sI (sI M 6 (M.1 102 0).toNatClampNeg x1) 7 ((sI M 6 (M.1 102 0).toNatClampNeg x1).1 102 0).toNatClampNeg x2).1 102 0).toNatClampNeg r3) 9 ((sI (sI (sI M 6 (M.1 102 0).toNatClampNeg x1) 7 ((sI M 6 (M.1 102 0).toNatClampNeg x1).1 102 0).toNatClampNeg x2) 8 ((sI (sI M 6 (M.1 102 0).toNatClampNeg x1) 7 ((sI M 6 (M.1 102 0).toNatClampNeg x1).1 102 0).toNatClampNeg x2).1 102 0).toNatClampNeg r3).1 102 0).toNatClampNeg x3).1 102 0) 40 (f_X12_makeNode_58 100000 0 (sI (sI (sI (sI (sI M 6 (M.1 102 0).toNatClampNeg x1) 7 ((sI M 6 (M.1 102 0).toNatClampNeg x1).1 102 0).toNatClampNeg x2) 8 ((sI (sI M 6 (M.1 102 0).toNatClampNeg x1) 7 ((sI M 6 (M.1 102 0).toNatClampNeg x1).1 102 0).toNatClampNeg x2).1 102 0).toNatClampNeg r3) 9 ((sI (sI (sI M 6 (M.1 102 0).toNatClampNeg x1) 7 ((sI M 6 (M.1 102 0).toNatClampNeg x1).1 102 0).toNatClampNeg x2) 8 ((sI (sI M 6 (M.1 102 0).toNatClampNeg x1) 7 ((sI M 6 (M.1 102 0).toNatClampNeg x1).1 102 0).toNatClampNeg x2).1 102 0).toNatClampNeg r3).1 102 0).toNatClampNeg x3) 10 ((sI (sI (sI (sI M 6 (M.1 102 0).toNatClampNeg x1) 7 ((sI M 6 (M.1 102 0).toNatClampNeg x1).1 102 0).toNatClampNeg x2) 8 ((sI (sI M 6 (M.1 102 0).toNatClampNeg x1) 7 ((sI M 6 (M.1 102 0).toNatClampNeg x1).1 102 0).toNatClampNeg x2).1 102 0).toNatClampNeg r3) 9 ((sI (sI (sI M 6 (M.1 102 0).toNatClampNeg x1) 7 ((sI M 6 (M.1 102 0).toNatClampNeg x1).1 102 0).toNatClampNeg x2) 8 ((sI (sI M 6 (M.1 102 0).toNatClampNeg x1) 7 ((sI M 6 (M.1 102 0).toNatClampNeg x1).1 102 0).toNatClampNeg x2).1 102 0).toNatClampNeg r3).1 102 0).toNatClampNeg x3).1 102 0).toNatClampNeg x4)))))))
def f_X12_loop_86  (x1 : Int32) (x2 : Int32) (x3 : Int32) (s1 : Bool) (M : Mem) : Option (Int32 × Mem) :=
  bd (f_X12_makeNode M (bI s1) x1 x2 x3) (fun r33 M34 => some (r33, M34))
def f_X12_loop (M : Mem) (x1 : Int32) (x2 : Int32) (x3 : Int32) (x4 : Bool) : Option (Int32 × Mem) :=
  bq (f_X12_mayHold M x1) (fun r1 => if r1 = true then bq (f_X12_isSum M x2) (fun r5 => if r5 = true then bq (f_X12_isSum M x3) (fun r9 => if r9 = true then bq (f_X12_depthIn M x1) (fun r13 => if 3 < r13 then some ((-1), M)
        else bq (f_X12_depthIn M x1) (fun r17 => bq (f_X12_hasLetters M x2 r17) (fun r20 => if r20 = true then bq (f_X12_depthIn M x1) (fun r24 => bq (f_X12_hasLetters M x3 r24) (fun r27 => if r27 = true then if (M.1 102 0) = 40 then some ((-2), M)
              else if x4 = true then f_X12_loop_86 x1 x2 x3 true M
                else f_X12_loop_86 x1 x2 x3 false M
            else some ((-1), M)))
          else some ((-1), M))))
      else some ((-1), M))
    else some ((-1), M))
  else some ((-1), M))
def f_X12_test (M : Mem) (x1 : Int32) (x2 : Int32) (x3 : Int32) : Option (Int32 × Mem) :=
  bq (f_X12_mayHold M x1) (fun r1 => if r1 = true then bq (f_X12_isSum M x2) (fun r5 => if r5 = true then bq (f_X12_in x3.toInt64 0 1000) (fun r9 => if r9 = true then bq (f_X12_depthIn M x1) (fun r13 => bq (f_X12_hasLetters M x2 r13) (fun r16 => if r16 = true then if (M.1 102 0) = 40 then some ((-2), M)
          else bd (f_X12_makeNode M 2 x1 x2 x3) (fun r21 M22 => some (r21, M22))
        else some ((-1), M)))
      else some ((-1), M))
    else some ((-1), M))
  else some ((-1), M))
def f_X12_act (M : Mem) (x1 : Int32) (x2 : Int32) (x3 : Int32) : Option (Int32 × Mem) :=
  bq (f_X12_mayHold M x1) (fun r1 => if r1 = true then bq (f_X12_in x2.toInt64 0 5) (fun r5 => if r5 = true then if (M.1 102 0) = 40 then some ((-2), M)
      else if (M.1 103 0) = 12 then some ((-2), M)
        else bd (f_X12_makeNode (sI M 103 0 ((M.1 103 0) + 1)) 3 x1 x2 x3) (fun r11 M12 => some (r11, M12))
    else some ((-1), M))
  else some ((-1), M))
def wkFuel : Nat := 10 ^ 300
def f_X12_walk_174 (k58 : Int32 → Mem → Option (Bool × Mem)) (x1 : Int32) (x2 : Int32) (M : Mem) : Option (Bool × Mem) :=
  ck (x1 + 1) 41 (bq (f_X12_nextIn (sI M 25 (x1 + 1).toNatClampNeg x2) x2 0) (fun r74 => ck (x1 + 1) 41 (k58 (x1 + 1) (sI (sI M 25 (x1 + 1).toNatClampNeg x2) 26 (x1 + 1).toNatClampNeg r74))))
def f_X12_walk_276 (k58 : Int32 → Mem → Option (Bool × Mem)) (x1 : Int32) (x3 : Int64) (s1 : Int32) (s2 : Int32) (M : Mem) : Option (Bool × Mem) :=
  ck s1 41 (ck x1 41 (if x3 ≤ ((sI M 26 s1.toNatClampNeg s2).2.1 27 x1.toNatClampNeg) then k58 x1 (sI M 26 s1.toNatClampNeg s2)
            else bm (f_X12_closeLoop (sI M 26 s1.toNatClampNeg s2) x1) (fun M82 => k58 (x1 + (-1)) M82)))
def f_X12_walk_58  : Nat → Int32 → Mem → Option (Bool × Mem)
  | 0, _, _ => none
  | n58 + 1, x1, M => if x1 < 0 then some ((zb (M.1 108 0)), M)
          else if (zb (M.1 108 0)) = true then some ((zb (M.1 108 0)), M)
            else ck x1 41 (if (M.1 102 0) ≤ (M.1 26 x1.toNatClampNeg) then ck x1 41 (if (M.1 25 x1.toNatClampNeg) = (-9) then f_X12_walk_58 n58 (x1 + (-1)) M
                else bq (f_X12_isLoop M (M.1 25 x1.toNatClampNeg)) (fun r14 => if r14 = true then ck (M.1 25 x1.toNatClampNeg) 40 (ck (M.1 8 (M.1 25 x1.toNatClampNeg).toNatClampNeg) 4 (ck (M.1 8 (M.1 25 x1.toNatClampNeg).toNatClampNeg) 4 (bd (f_X12_turns (sL M 5 (M.1 8 (M.1 25 x1.toNatClampNeg).toNatClampNeg).toNatClampNeg ((M.2.1 5 (M.1 8 (M.1 25 x1.toNatClampNeg).toNatClampNeg).toNatClampNeg) + 1)) x1) (fun r21 M22 => if r21 = true then bq (f_X12_nextIn M22 (M.1 25 x1.toNatClampNeg) 0) (fun r28 => ck x1 41 (f_X12_walk_58 n58 x1 (sI M22 26 x1.toNatClampNeg r28)))
                    else bm (f_X12_closeLoop M22 x1) (fun M26 => f_X12_walk_58 n58 (x1 + (-1)) M26)))))
                  else f_X12_walk_58 n58 (x1 + (-1)) M))
              else ck x1 41 (bq (f_X12_nextIn M (M.1 25 x1.toNatClampNeg) ((M.1 26 x1.toNatClampNeg) + 1)) (fun r33 => ck x1 41 (ck (M.1 26 x1.toNatClampNeg) 40 (if ((sI M 26 x1.toNatClampNeg r33).1 6 (M.1 26 x1.toNatClampNeg).toNatClampNeg) = 3 then bm (f_X12_see (sI M 26 x1.toNatClampNeg r33) (M.1 26 x1.toNatClampNeg)) (fun M71 => f_X12_walk_58 n58 x1 M71)
                else ck (M.1 26 x1.toNatClampNeg) 40 (if ((sI M 26 x1.toNatClampNeg r33).1 6 (M.1 26 x1.toNatClampNeg).toNatClampNeg) = 2 then ck (M.1 26 x1.toNatClampNeg) 40 (bq (f_X12_valueOf (sI M 26 x1.toNatClampNeg r33) ((sI M 26 x1.toNatClampNeg r33).1 9 (M.1 26 x1.toNatClampNeg).toNatClampNeg)) (fun r61 => ck (M.1 26 x1.toNatClampNeg) 40 (if ((sI M 26 x1.toNatClampNeg r33).1 10 (M.1 26 x1.toNatClampNeg).toNatClampNeg) = 0 then if r61 < 0 then f_X12_walk_58 n58 x1 (sI M 26 x1.toNatClampNeg r33)
                      else f_X12_walk_174 (f_X12_walk_58 n58) x1 (M.1 26 x1.toNatClampNeg) (sI M 26 x1.toNatClampNeg r33)
                    else ck (M.1 26 x1.toNatClampNeg) 40 (nzL ((sI M 26 x1.toNatClampNeg r33).1 10 (M.1 26 x1.toNatClampNeg).toNatClampNeg).toInt64 (if (r61 - r61 / ((sI M 26 x1.toNatClampNeg r33).1 10 (M.1 26 x1.toNatClampNeg).toNatClampNeg).toInt64 * ((sI M 26 x1.toNatClampNeg r33).1 10 (M.1 26 x1.toNatClampNeg).toNatClampNeg).toInt64) = 0 then f_X12_walk_174 (f_X12_walk_58 n58) x1 (M.1 26 x1.toNatClampNeg) (sI M 26 x1.toNatClampNeg r33)
                      else f_X12_walk_58 n58 x1 (sI M 26 x1.toNatClampNeg r33))))))
                  else ck (M.1 26 x1.toNatClampNeg) 40 (bq (f_X12_valueOf (sI M 26 x1.toNatClampNeg r33) ((sI M 26 x1.toNatClampNeg r33).1 9 (M.1 26 x1.toNatClampNeg).toNatClampNeg)) (fun r42 => ck (M.1 26 x1.toNatClampNeg) 40 (bq (f_X12_valueOf (sI M 26 x1.toNatClampNeg r33) ((sI M 26 x1.toNatClampNeg r33).1 10 (M.1 26 x1.toNatClampNeg).toNatClampNeg)) (fun r46 => ck (x1 + 1) 41 (ck (x1 + 1) 41 (ck (M.1 26 x1.toNatClampNeg) 40 (ck ((sI (sL (sI M 26 x1.toNatClampNeg r33) 27 (x1 + 1).toNatClampNeg r46) 25 (x1 + 1).toNatClampNeg (M.1 26 x1.toNatClampNeg)).1 8 (M.1 26 x1.toNatClampNeg).toNatClampNeg) 4 (bd (f_X12_turns (sL (sI (sL (sI M 26 x1.toNatClampNeg r33) 27 (x1 + 1).toNatClampNeg r46) 25 (x1 + 1).toNatClampNeg (M.1 26 x1.toNatClampNeg)) 5 ((sI (sL (sI M 26 x1.toNatClampNeg r33) 27 (x1 + 1).toNatClampNeg r46) 25 (x1 + 1).toNatClampNeg (M.1 26 x1.toNatClampNeg)).1 8 (M.1 26 x1.toNatClampNeg).toNatClampNeg).toNatClampNeg r42) (x1 + 1)) (fun r53 M54 => if r53 = true then bq (f_X12_nextIn M54 (M.1 26 x1.toNatClampNeg) 0) (fun r57 => f_X12_walk_276 (f_X12_walk_58 n58) (x1 + 1) r42 (x1 + 1) r57 M54)
                    else f_X12_walk_276 (f_X12_walk_58 n58) (x1 + 1) r42 (x1 + 1) (M54.1 102 0) M54)))))))))))))))
def f_X12_walk_17  : Nat → Int32 → Mem → Option (Bool × Mem)
  | 0, _, _ => none
  | n17 + 1, x1, M => if 4 ≤ x1 then ck 0 41 (bq (f_X12_nextIn (sI M 25 (0 : Int32).toNatClampNeg (-9)) (-9) 0) (fun r3 => ck 0 41 (f_X12_walk_58 wkFuel 0 (sI (sI M 25 (0 : Int32).toNatClampNeg (-9)) 26 (0 : Int32).toNatClampNeg r3))))
      else ck x1 4 (f_X12_walk_17 n17 (x1 + 1) (sL M 5 x1.toNatClampNeg 0))
def f_X12_walk (M : Mem) : Option (Bool × Mem) :=
  f_X12_walk_17 100000 0 (sI (sI (sI M 106 0 0) 107 0 0) 108 0 (bI false))
def f_X12_visits (M : Mem) : Option (Int32 × Mem) :=
  bd (f_X12_walk M) (fun r1 M2 => if r1 = true then some ((-6), M2)
  else some ((M2.1 106 0), M2))
def f_X12_visit_62  (x2 : Int32) (x4 : Int32) (M : Mem) : Option (Int32 × Mem) :=
  if x2 = 0 then ck x4 401 (some ((M.1 23 x4.toNatClampNeg), M))
    else ck (((4 * x4) + x2) - 1) 1604 (some ((100000 + (M.2.1 24 (((4 * x4) + x2) - 1).toNatClampNeg)).toInt32, M))
def f_X12_visit (M : Mem) (x1 : Int32) (x2 : Int32) (x3 : Bool) : Option (Int32 × Mem) :=
  bq (f_X12_in x2.toInt64 0 4) (fun r1 => if r1 = true then bd (f_X12_walk M) (fun r5 M6 => if r5 = true then some ((-6), M6)
    else bq (f_X12_in x1.toInt64 0 ((M6.1 106 0) - 1).toInt64) (fun r9 => if r9 = true then if x3 = true then bm (f_X12_layOrder M6) (fun M15 => ck x1 401 (f_X12_visit_62 x2 (M15.1 38 x1.toNatClampNeg) M15))
        else f_X12_visit_62 x2 x1 M6
      else some ((-9), M6)))
  else some ((-1), M))
def f_X12_has_39  : Nat → Int32 → Int32 → Int32 → Int32 → Int32 → Int32 → Mem → Option (Int32 × Mem)
  | 0, _, _, _, _, _, _, _ => none
  | n39 + 1, x1, x2, x3, x4, x5, x6, M => if (M.1 106 0) ≤ x6 then some (0, M)
      else ck x6 401 (if (M.1 23 x6.toNatClampNeg) = x1 then ck (4 * x6) 1604 (if (M.2.1 24 (4 * x6).toNatClampNeg) = x2.toInt64 then ck ((4 * x6) + 1) 1604 (if (M.2.1 24 ((4 * x6) + 1).toNatClampNeg) = x3.toInt64 then ck ((4 * x6) + 2) 1604 (if (M.2.1 24 ((4 * x6) + 2).toNatClampNeg) = x4.toInt64 then ck ((4 * x6) + 3) 1604 (if (M.2.1 24 ((4 * x6) + 3).toNatClampNeg) = x5.toInt64 then some (1, M)
                else f_X12_has_39 n39 x1 x2 x3 x4 x5 (x6 + 1) M)
              else f_X12_has_39 n39 x1 x2 x3 x4 x5 (x6 + 1) M)
            else f_X12_has_39 n39 x1 x2 x3 x4 x5 (x6 + 1) M)
          else f_X12_has_39 n39 x1 x2 x3 x4 x5 (x6 + 1) M)
        else f_X12_has_39 n39 x1 x2 x3 x4 x5 (x6 + 1) M)
def f_X12_has (M : Mem) (x1 : Int32) (x2 : Int32) (x3 : Int32) (x4 : Int32) (x5 : Int32) : Option (Int32 × Mem) :=
  bq (f_X12_isNode M x1) (fun r1 => if r1 = true then bd (f_X12_walk M) (fun r5 M6 => if r5 = true then some ((-6), M6)
    else ck x1 40 (if (M6.1 6 x1.toNatClampNeg) = 3 then f_X12_has_39 100000 x1 x2 x3 x4 x5 0 M6
      else bd (f_X12_meets M6 3) (fun r11 M12 => some (r11, M12))))
  else some ((-1), M))
def f_X12_points_40  : Nat → Int32 → Int32 → Int32 → Mem → Option (Int32 × Mem)
  | 0, _, _, _, _ => none
  | n40 + 1, x1, x2, x3, M => if (M.1 106 0) ≤ x3 then some (x2, M)
      else ck x3 401 (if (M.1 23 x3.toNatClampNeg) = x1 then f_X12_points_40 n40 x1 (x2 + 1) (x3 + 1) M
        else f_X12_points_40 n40 x1 (x2 + 0) (x3 + 1) M)
def f_X12_points (M : Mem) (x1 : Int32) : Option (Int32 × Mem) :=
  bq (f_X12_isNode M x1) (fun r1 => if r1 = true then bd (f_X12_walk M) (fun r5 M6 => if r5 = true then some ((-6), M6)
    else ck x1 40 (if (M6.1 6 x1.toNatClampNeg) = 3 then f_X12_points_40 100000 x1 0 0 M6
      else bd (f_X12_meets M6 3) (fun r11 M12 => some (r11, M12))))
  else some ((-1), M))
def f_X12_needs_60   (M : Mem) : Option (Int32 × Mem) :=
  bd (f_X12_meets M 3) (fun r24 M25 => some (r24, M25))
def f_X12_needs_88 (k76 : Int32 → Int32 → Int32 → Int32 → Int32 → Mem → Option (Int32 × Mem)) : Nat → Int32 → Int32 → Int32 → Int32 → Int32 → Int32 → Mem → Option (Int32 × Mem)
  | 0, _, _, _, _, _, _, _ => none
  | n88 + 1, x1, x2, x3, x4, x5, x6, M => if x5 ≤ x6 then k76 x1 x2 x3 x4 (x5 + 1) M
          else ck x5 401 (if (M.1 23 x5.toNatClampNeg) = x2 then ck x6 401 (if (M.1 23 x6.toNatClampNeg) = x1 then bq (f_X12_isNeed M x6 x5 x3) (fun r33 => if r33 = true then f_X12_needs_88 k76 n88 x1 x2 x3 (x4 + 1) x5 (x6 + 1) M
                else f_X12_needs_88 k76 n88 x1 x2 x3 (x4 + 0) x5 (x6 + 1) M)
              else f_X12_needs_88 k76 n88 x1 x2 x3 (x4 + 0) x5 (x6 + 1) M)
            else k76 x1 x2 x3 x4 (x5 + 1) M)
def f_X12_needs_76  : Nat → Int32 → Int32 → Int32 → Int32 → Int32 → Mem → Option (Int32 × Mem)
  | 0, _, _, _, _, _, _ => none
  | n76 + 1, x1, x2, x3, x4, x5, M => if (M.1 106 0) ≤ x5 then some (x4, M)
      else f_X12_needs_88 (f_X12_needs_76 n76) 100000 x1 x2 x3 x4 x5 0 M
def f_X12_needs (M : Mem) (x1 : Int32) (x2 : Int32) (x3 : Int32) : Option (Int32 × Mem) :=
  bq (f_X12_isNode M x1) (fun r1 => if r1 = true then bq (f_X12_isNode M x2) (fun r5 => if r5 = true then bq (f_X12_in x3.toInt64 0 2) (fun r9 => if r9 = true then bd (f_X12_walk M) (fun r13 M14 => if r13 = true then some ((-6), M14)
        else ck x1 40 (if (M14.1 6 x1.toNatClampNeg) = 3 then ck x2 40 (if (M14.1 6 x2.toNatClampNeg) = 3 then bm (f_X12_touchAll M14) (fun M22 => f_X12_needs_76 100000 x1 x2 x3 0 0 M22)
            else f_X12_needs_60 M14)
          else f_X12_needs_60 M14))
      else some ((-1), M))
    else some ((-1), M))
  else some ((-1), M))
def f_X12_carried_58 (k49 : Int32 → Int32 → Int32 → Int32 → Mem → Option (Int32 × Mem)) : Nat → Int32 → Int32 → Int32 → Int32 → Int32 → Mem → Option (Int32 × Mem)
  | 0, _, _, _, _, _, _ => none
  | n58 + 1, x1, x2, x3, x4, x5, M => if 3 ≤ x5 then k49 x1 x2 x3 (x4 + 1) M
                else bq (f_X12_isNeed M x4 x3 x5) (fun r16 => if r16 = true then bq (f_X12_carrier M x4 x3) (fun r20 => if r20 = x1 then f_X12_carried_58 k49 n58 x1 (x2 + 1) x3 x4 (x5 + 1) M
                    else f_X12_carried_58 k49 n58 x1 (x2 + 0) x3 x4 (x5 + 1) M)
                  else f_X12_carried_58 k49 n58 x1 (x2 + 0) x3 x4 (x5 + 1) M)
def f_X12_carried_49 (k38 : Int32 → Int32 → Int32 → Mem → Option (Int32 × Mem)) : Nat → Int32 → Int32 → Int32 → Int32 → Mem → Option (Int32 × Mem)
  | 0, _, _, _, _, _ => none
  | n49 + 1, x1, x2, x3, x4, M => if x3 ≤ x4 then k38 x1 x2 (x3 + 1) M
            else f_X12_carried_58 (f_X12_carried_49 k38 n49) 100000 x1 x2 x3 x4 0 M
def f_X12_carried_38  : Nat → Int32 → Int32 → Int32 → Mem → Option (Int32 × Mem)
  | 0, _, _, _, _ => none
  | n38 + 1, x1, x2, x3, M => if (M.1 106 0) ≤ x3 then some (x2, M)
        else f_X12_carried_49 (f_X12_carried_38 n38) 100000 x1 x2 x3 0 M
def f_X12_carried_20  (x1 : Int32) (M : Mem) : Option (Int32 × Mem) :=
  bd (f_X12_walk M) (fun r6 M7 => if r6 = true then some ((-6), M7)
    else bm (f_X12_touchAll M7) (fun M11 => f_X12_carried_38 100000 x1 0 0 M11))
def f_X12_carried (M : Mem) (x1 : Int32) : Option (Int32 × Mem) :=
  bq (f_X12_in x1.toInt64 0 3) (fun r1 => if r1 = true then f_X12_carried_20 x1 M
  else if x1 = (-9) then f_X12_carried_20 x1 M
    else some ((-1), M))
def f_X12_distance_60   (M : Mem) : Option (Int32 × Mem) :=
  bd (f_X12_meets M 3) (fun r35 M36 => some (r35, M36))
def f_X12_distance_189 (k119 : Int32 → Int32 → Int32 → Bool → Bool → Int64 → Int32 → Int32 → Mem → Option (Int32 × Mem)) (x1 : Int32) (x2 : Int32) (x3 : Int32) (x4 : Bool) (x5 : Bool) (x6 : Int64) (x8 : Int32) (x9 : Int32) (s0 : Bool) (M : Mem) : Option (Int32 × Mem) :=
  ck ((4 * x8) + x3) 1604 (ck ((4 * x9) + x3) 1604 (if s0 = true then if x5 = true then if x4 = true then if ((M.2.1 24 ((4 * x8) + x3).toNatClampNeg) - (M.2.1 24 ((4 * x9) + x3).toNatClampNeg)) ≤ x6 then k119 x1 x2 x3 x4 x5 x6 x8 (x9 + 1) M
                  else k119 x1 x2 x3 x4 true ((M.2.1 24 ((4 * x8) + x3).toNatClampNeg) - (M.2.1 24 ((4 * x9) + x3).toNatClampNeg)) x8 (x9 + 1) M
                else if x6 ≤ ((M.2.1 24 ((4 * x8) + x3).toNatClampNeg) - (M.2.1 24 ((4 * x9) + x3).toNatClampNeg)) then k119 x1 x2 x3 x4 x5 x6 x8 (x9 + 1) M
                  else k119 x1 x2 x3 x4 true ((M.2.1 24 ((4 * x8) + x3).toNatClampNeg) - (M.2.1 24 ((4 * x9) + x3).toNatClampNeg)) x8 (x9 + 1) M
              else k119 x1 x2 x3 x4 true ((M.2.1 24 ((4 * x8) + x3).toNatClampNeg) - (M.2.1 24 ((4 * x9) + x3).toNatClampNeg)) x8 (x9 + 1) M
            else k119 x1 x2 x3 x4 x5 x6 x8 (x9 + 1) M))
def f_X12_distance_184 (k189 : Int32 → Int32 → Int32 → Bool → Bool → Int64 → Int32 → Int32 → Bool → Mem → Option (Int32 × Mem)) (x1 : Int32) (x2 : Int32) (x3 : Int32) (x4 : Bool) (x5 : Bool) (x6 : Int64) (x8 : Int32) (x9 : Int32) (M : Mem) : Option (Int32 × Mem) :=
  k189 x1 x2 x3 x4 x5 x6 x8 x9 true M
def f_X12_distance_188 (k189 : Int32 → Int32 → Int32 → Bool → Bool → Int64 → Int32 → Int32 → Bool → Mem → Option (Int32 × Mem)) (x1 : Int32) (x2 : Int32) (x3 : Int32) (x4 : Bool) (x5 : Bool) (x6 : Int64) (x8 : Int32) (x9 : Int32) (M : Mem) : Option (Int32 × Mem) :=
  k189 x1 x2 x3 x4 x5 x6 x8 x9 false M
def f_X12_distance_119 (k107 : Int32 → Int32 → Int32 → Bool → Bool → Int64 → Int32 → Mem → Option (Int32 × Mem)) : Nat → Int32 → Int32 → Int32 → Bool → Bool → Int64 → Int32 → Int32 → Mem → Option (Int32 × Mem)
  | 0, _, _, _, _, _, _, _, _, _ => none
  | n119 + 1, x1, x2, x3, x4, x5, x6, x8, x9, M => if x8 ≤ x9 then k107 x1 x2 x3 x4 x5 x6 (x8 + 1) M
          else ck x8 401 (if (M.1 23 x8.toNatClampNeg) = x2 then ck x9 401 (if (M.1 23 x9.toNatClampNeg) = x1 then bq (f_X12_isNeed M x9 x8 0) (fun r45 => if r45 = true then f_X12_distance_184 (f_X12_distance_189 (f_X12_distance_119 k107 n119)) x1 x2 x3 x4 x5 x6 x8 x9 M
                else bq (f_X12_isNeed M x9 x8 1) (fun r49 => if r49 = true then f_X12_distance_184 (f_X12_distance_189 (f_X12_distance_119 k107 n119)) x1 x2 x3 x4 x5 x6 x8 x9 M
                  else bq (f_X12_isNeed M x9 x8 2) (fun r53 => if r53 = true then f_X12_distance_184 (f_X12_distance_189 (f_X12_distance_119 k107 n119)) x1 x2 x3 x4 x5 x6 x8 x9 M
                    else f_X12_distance_188 (f_X12_distance_189 (f_X12_distance_119 k107 n119)) x1 x2 x3 x4 x5 x6 x8 x9 M)))
              else f_X12_distance_188 (f_X12_distance_189 (f_X12_distance_119 k107 n119)) x1 x2 x3 x4 x5 x6 x8 x9 M)
            else k107 x1 x2 x3 x4 x5 x6 (x8 + 1) M)
def f_X12_distance_107  : Nat → Int32 → Int32 → Int32 → Bool → Bool → Int64 → Int32 → Mem → Option (Int32 × Mem)
  | 0, _, _, _, _, _, _, _, _ => none
  | n107 + 1, x1, x2, x3, x4, x5, x6, x8, M => if (M.1 106 0) ≤ x8 then if x5 = true then some (1, sL M 105 0 x6)
        else some ((-9), M)
      else f_X12_distance_119 (f_X12_distance_107 n107) 100000 x1 x2 x3 x4 x5 x6 x8 0 M
def f_X12_distance (M : Mem) (x1 : Int32) (x2 : Int32) (x3 : Int32) (x4 : Bool) : Option (Int32 × Mem) :=
  bq (f_X12_isNode M x1) (fun r1 => if r1 = true then bq (f_X12_isNode M x2) (fun r5 => if r5 = true then bq (f_X12_in x3.toInt64 0 3) (fun r9 => if r9 = true then bd (f_X12_walk M) (fun r13 M14 => if r13 = true then some ((-6), M14)
        else ck x1 40 (if (M14.1 6 x1.toNatClampNeg) = 3 then ck x2 40 (if (M14.1 6 x2.toNatClampNeg) = 3 then bq (f_X12_loopOf M14 x1 x3) (fun r21 => if r21 = (-9) then some ((-1), M14)
              else bq (f_X12_loopOf M14 x1 x3) (fun r25 => bq (f_X12_loopOf M14 x2 x3) (fun r28 => if r25 = r28 then bm (f_X12_touchAll M14) (fun M33 => f_X12_distance_107 100000 x1 x2 x3 x4 false 0 0 M33)
                else some ((-1), M14))))
            else f_X12_distance_60 M14)
          else f_X12_distance_60 M14))
      else some ((-1), M))
    else some ((-1), M))
  else some ((-1), M))
def f_X12_free_103 (k50 : Int32 → Int32 → Int32 → Mem → Option (Int32 × Mem)) (x1 : Int32) (x2 : Int32) (x3 : Int32) (s0 : Bool) (M : Mem) : Option (Int32 × Mem) :=
  if s0 = true then bq (f_X12_isNeed M x3 x2 0) (fun r37 => if r37 = true then some (0, M)
              else bq (f_X12_isNeed M x3 x2 1) (fun r41 => if r41 = true then some (0, M)
                else bq (f_X12_isNeed M x3 x2 2) (fun r45 => if r45 = true then some (0, M)
                  else k50 x1 x2 (x3 + 1) M)))
            else k50 x1 x2 (x3 + 1) M
def f_X12_free_102 (k103 : Int32 → Int32 → Int32 → Bool → Mem → Option (Int32 × Mem)) (x1 : Int32) (x2 : Int32) (x3 : Int32) (M : Mem) : Option (Int32 × Mem) :=
  k103 x1 x2 x3 false M
def f_X12_free_50 (k40 : Int32 → Int32 → Mem → Option (Int32 × Mem)) : Nat → Int32 → Int32 → Int32 → Mem → Option (Int32 × Mem)
  | 0, _, _, _, _ => none
  | n50 + 1, x1, x2, x3, M => if x2 ≤ x3 then k40 x1 (x2 + 1) M
          else ck x3 401 (bq (f_X12_isIn M (M.1 23 x3.toNatClampNeg) x1) (fun r22 => if r22 = true then ck x2 401 (bq (f_X12_isIn M (M.1 23 x2.toNatClampNeg) x1) (fun r27 => if r27 = true then bq (f_X12_carrier M x3 x2) (fun r31 => ck x1 40 (if r31 = (M.1 8 x1.toNatClampNeg) then f_X12_free_103 (f_X12_free_50 k40 n50) x1 x2 x3 true M
                else f_X12_free_102 (f_X12_free_103 (f_X12_free_50 k40 n50)) x1 x2 x3 M))
              else f_X12_free_102 (f_X12_free_103 (f_X12_free_50 k40 n50)) x1 x2 x3 M))
            else f_X12_free_102 (f_X12_free_103 (f_X12_free_50 k40 n50)) x1 x2 x3 M))
def f_X12_free_40  : Nat → Int32 → Int32 → Mem → Option (Int32 × Mem)
  | 0, _, _, _ => none
  | n40 + 1, x1, x2, M => if (M.1 106 0) ≤ x2 then some (1, M)
      else f_X12_free_50 (f_X12_free_40 n40) 100000 x1 x2 0 M
def f_X12_free (M : Mem) (x1 : Int32) : Option (Int32 × Mem) :=
  bq (f_X12_isNode M x1) (fun r1 => if r1 = true then bd (f_X12_walk M) (fun r5 M6 => if r5 = true then some ((-6), M6)
    else bq (f_X12_isLoop M6 x1) (fun r9 => if r9 = true then bm (f_X12_touchAll M6) (fun M14 => f_X12_free_40 100000 x1 0 M14)
      else bd (f_X12_meets M6 3) (fun r16 M17 => some (r16, M17))))
  else some ((-1), M))
def f_X12_allowed (M : Mem) : Option (Int32 × Mem) :=
  bd (f_X12_walk M) (fun r1 M2 => if r1 = true then some ((-6), M2)
  else bd (f_X12_isAllowed M2) (fun r5 M6 => if r5 = true then some (1, M6)
    else some (0, M6)))
def f_X12_why (M : Mem) (x1 : Int32) : Option (Int32 × Mem) :=
  bq (f_X12_in x1.toInt64 0 2) (fun r1 => if r1 = true then bd (f_X12_walk M) (fun r5 M6 => if r5 = true then some ((-6), M6)
    else bd (f_X12_isAllowed M6) (fun r9 M10 => if r9 = true then some ((-9), M10)
      else if x1 = 0 then some ((M10.1 110 0), M10)
        else if x1 = 1 then some ((M10.1 111 0), M10)
          else some ((M10.1 112 0), M10)))
  else some ((-1), M))
def f_X12_doVisit_82 (k24 : Int32 → Int32 → Int32 → Mem → Option (Int32 × Mem)) (x1 : Int32) (x2 : Int32) (x3 : Int32) (x5 : Int64) (s1 : Int64) (M : Mem) : Option (Int32 × Mem) :=
  if x3 = 2 then k24 x1 x2 (x3 + 1) (sL (sL M 113 0 s1) 114 0 x5)
        else k24 x1 x2 (x3 + 1) (sL (sL M 113 0 s1) 114 0 ((sL M 113 0 s1).2.1 114 0))
def f_X12_doVisit_130  (x1 : Int32) (x2 : Int32) (M : Mem) : Option (Int32 × Mem) :=
  ck x2 40 (ck x2 40 (bq (f_X12_workedOut M (M.1 9 x2.toNatClampNeg) (M.1 10 x2.toNatClampNeg)) (fun r25 => bq (f_X12_hasAim M x1 0) (fun r28 => if r28 = true then bq (f_X12_meetsAt M x2 0) (fun r32 => if r32 ≤ 0 then bq (f_X12_placeAt M x2 0) (fun r36 => ck (3 * x2) 120 (ck (M.1 11 (3 * x2).toNatClampNeg) 8 (bq (f_X12_cut (M.1 19 (M.1 11 (3 * x2).toNatClampNeg).toNatClampNeg) r25) (fun r41 => ck r36 3200 (some (0, sL M 22 r36.toNatClampNeg r41))))))
          else some (r32, M))
        else some (0, M)))))
def f_X12_doVisit_24  : Nat → Int32 → Int32 → Int32 → Mem → Option (Int32 × Mem)
  | 0, _, _, _, _ => none
  | n24 + 1, x1, x2, x3, M => if 3 ≤ x3 then ck x2 40 (if (M.1 9 x2.toNatClampNeg) = 3 then if (M.2.1 114 0) = 0 then some (4, M)
          else f_X12_doVisit_130 x1 x2 M
        else f_X12_doVisit_130 x1 x2 M)
      else bq (f_X12_hasAim M x1 x3) (fun r9 => if r9 = true then bq (f_X12_meetsAt M x2 x3) (fun r13 => if r13 ≤ 0 then bq (f_X12_placeAt M x2 x3) (fun r17 => ck r17 3200 (if x3 = 1 then f_X12_doVisit_82 (f_X12_doVisit_24 n24) x1 x2 x3 (M.2.1 22 r17.toNatClampNeg) (M.2.1 22 r17.toNatClampNeg) M
            else f_X12_doVisit_82 (f_X12_doVisit_24 n24) x1 x2 x3 (M.2.1 22 r17.toNatClampNeg) (M.2.1 113 0) M))
          else some (r13, M))
        else f_X12_doVisit_24 n24 x1 x2 (x3 + 1) M)
def f_X12_doVisit (M : Mem) (x1 : Int32) : Option (Int32 × Mem) :=
  bm (f_X12_lettersOf M x1) (fun M2 => ck x1 401 (f_X12_doVisit_24 100000 x1 (M2.1 23 x1.toNatClampNeg) 1 (sL (sL M2 113 0 0) 114 0 0)))
def f_X12_run_99  : Nat → Int32 → Int32 → Int32 → Mem → Option (Int32 × Mem)
  | 0, _, _, _, _ => none
  | n99 + 1, x3, x4, x5, M => if 4 ≤ x5 then bd (f_X12_meets M x4) (fun r23 M24 => some (r23, M24))
                else ck ((4 * x3) + x5) 1604 (ck (2 + x5) 6 (f_X12_run_99 n99 x3 x4 (x5 + 1) (sI M 40 (2 + x5).toNatClampNeg (100000 + (M.2.1 24 ((4 * x3) + x5).toNatClampNeg)).toInt32)))
def f_X12_run_64 (k42 : Bool → Int32 → Mem → Option (Int32 × Mem)) (x1 : Bool) (x2 : Int32) (s0 : Int32) (M : Mem) : Option (Int32 × Mem) :=
  bd (f_X12_doVisit M s0) (fun r15 M16 => if r15 ≤ 0 then k42 x1 (x2 + 1) M16
            else ck 0 6 (ck s0 401 (ck 1 6 (f_X12_run_99 100000 s0 r15 0 (sI (sI M16 40 (0 : Int32).toNatClampNeg x2) 40 (1 : Int32).toNatClampNeg ((sI M16 40 (0 : Int32).toNatClampNeg x2).1 23 s0.toNatClampNeg))))))
def f_X12_run_42  : Nat → Bool → Int32 → Mem → Option (Int32 × Mem)
  | 0, _, _, _ => none
  | n42 + 1, x1, x2, M => if (M.1 106 0) ≤ x2 then ck 0 6 (some (((sI M 40 (0 : Int32).toNatClampNeg (M.1 106 0)).1 106 0), sI M 40 (0 : Int32).toNatClampNeg (M.1 106 0)))
          else if x1 = true then ck x2 401 (f_X12_run_64 (f_X12_run_42 n42) x1 x2 (M.1 38 x2.toNatClampNeg) M)
            else f_X12_run_64 (f_X12_run_42 n42) x1 x2 x2 M
def f_X12_run_20  : Nat → Bool → Int32 → Mem → Option (Int32 × Mem)
  | 0, _, _, _ => none
  | n20 + 1, x1, x2, M => if 6 ≤ x2 then f_X12_run_42 100000 x1 0 M
      else ck x2 6 (f_X12_run_20 n20 x1 (x2 + 1) (sI M 40 x2.toNatClampNeg (-9)))
def f_X12_run (M : Mem) (x1 : Bool) : Option (Int32 × Mem) :=
  bd (f_X12_walk M) (fun r1 M2 => if r1 = true then some ((-6), M2)
  else if x1 = true then bm (f_X12_layOrder M2) (fun M7 => f_X12_run_20 100000 x1 1 M7)
    else f_X12_run_20 100000 x1 1 M2)
def f_X12_fetched (M : Mem) (x1 : Int32) (x2 : Int32) : Option (Int32 × Mem) :=
  bq (f_X12_in x1.toInt64 1 16) (fun r1 => if r1 = true then bq (f_X12_in x2.toInt64 1 20) (fun r5 => if r5 = true then bd (f_X12_walk M) (fun r9 M10 => if r9 = true then some ((-6), M10)
      else bm (f_X12_layOrder M10) (fun M14 => bm (f_X12_touchAll M14) (fun M17 => bd (f_X12_fetchedMany M17 x1 x2) (fun r19 M20 => some (r19, M20)))))
    else some ((-1), M))
  else some ((-1), M))
def f_X12_best_142 (k80 : Int32 → Int32 → Int32 → Int32 → Int32 → Int32 → Int32 → Mem → Option (Int32 × Mem)) (x1 : Int32) (x2 : Int32) (x3 : Int32) (x4 : Int32) (x5 : Int32) (x6 : Int32) (x7 : Int32) (M : Mem) : Option (Int32 × Mem) :=
  bm (f_X12_giveTried M) (fun M52 => k80 x1 x2 x3 x4 x5 x6 (x7 + 1) M52)
def f_X12_best_134 (k142 : Int32 → Int32 → Int32 → Int32 → Int32 → Int32 → Int32 → Mem → Option (Int32 × Mem)) (x1 : Int32) (x2 : Int32) (x3 : Int32) (x6 : Int32) (x7 : Int32) (x8 : Int32) (M : Mem) : Option (Int32 × Mem) :=
  k142 x1 x2 x3 x7 x8 x6 x7 M
def f_X12_best_98 (k80 : Int32 → Int32 → Int32 → Int32 → Int32 → Int32 → Int32 → Mem → Option (Int32 × Mem)) (x1 : Int32) (x2 : Int32) (x3 : Int32) (x4 : Int32) (x5 : Int32) (x6 : Int32) (x7 : Int32) (M : Mem) : Option (Int32 × Mem) :=
  bm (f_X12_make M x1 x7) (fun M40 => bd (f_X12_isAllowed M40) (fun r42 M43 => if r42 = true then bd (f_X12_fetchedMany M43 x2 x3) (fun r46 M47 => if x4 = (-9) then f_X12_best_134 (f_X12_best_142 k80) x1 x2 x3 x6 x7 r46 M47
          else if x5 ≤ r46 then f_X12_best_142 k80 x1 x2 x3 x4 x5 x6 x7 M47
            else f_X12_best_134 (f_X12_best_142 k80) x1 x2 x3 x6 x7 r46 M47)
        else f_X12_best_142 k80 x1 x2 x3 x4 x5 x6 x7 M43))
def f_X12_best_80  : Nat → Int32 → Int32 → Int32 → Int32 → Int32 → Int32 → Int32 → Mem → Option (Int32 × Mem)
  | 0, _, _, _, _, _, _, _, _ => none
  | n80 + 1, x1, x2, x3, x4, x5, x6, x7, M => if 5 ≤ x7 then if x4 = (-9) then some ((-9), M)
        else if x4 ≤ 0 then some (x5, M)
          else bm (f_X12_make M x1 x4) (fun M32 => bd (f_X12_turned M32) (fun r34 M35 => some (x5, M35)))
      else if x7 = 0 then f_X12_best_98 (f_X12_best_80 n80) x1 x2 x3 x4 x5 x6 x7 M
        else if x7 ≤ x6 then f_X12_best_80 n80 x1 x2 x3 x4 x5 x6 (x7 + 1) M
          else f_X12_best_98 (f_X12_best_80 n80) x1 x2 x3 x4 x5 x6 x7 M
def f_X12_best (M : Mem) (x1 : Int32) (x2 : Int32) (x3 : Int32) : Option (Int32 × Mem) :=
  bq (f_X12_isNode M x1) (fun r1 => if r1 = true then bq (f_X12_in x2.toInt64 1 16) (fun r5 => if r5 = true then bq (f_X12_in x3.toInt64 1 20) (fun r9 => if r9 = true then bd (f_X12_walk M) (fun r13 M14 => if r13 = true then some ((-6), M14)
        else bq (f_X12_isLoop M14 x1) (fun r17 => if r17 = true then bm (f_X12_keepTried M14) (fun M22 => ck x1 40 (f_X12_best_80 100000 x1 x2 x3 (-9) 0 (M22.1 8 x1.toNatClampNeg) 0 M22))
          else bd (f_X12_meets M14 3) (fun r25 M26 => some (r25, M26))))
      else some ((-1), M))
    else some ((-1), M))
  else some ((-1), M))
def f_X12_lines (M : Mem) : Option (Int32 × Mem) :=
  bd (f_X12_walk M) (fun r1 M2 => if r1 = true then some ((-6), M2)
  else bm (f_X12_layLines M2) (fun M6 => some ((M6.1 116 0), M6)))
def f_X12_written_84  (x2 : Int32) (x4 : Int32) (x5 : Int32) (M : Mem) : Option (Int32 × Mem) :=
  if x2 = 0 then ck x5 401 (some (1, sL M 105 0 (M.1 23 x5.toNatClampNeg).toInt64))
    else some (1, sL M 105 0 x4.toInt64)
def f_X12_written (M : Mem) (x1 : Int32) (x2 : Int32) : Option (Int32 × Mem) :=
  bq (f_X12_in x2.toInt64 0 9) (fun r1 => if r1 = true then bd (f_X12_walk M) (fun r5 M6 => if r5 = true then some ((-6), M6)
    else bm (f_X12_layLines M6) (fun M10 => bq (f_X12_in x1.toInt64 0 ((M10.1 116 0) - 1).toInt64) (fun r12 => if r12 = true then ck x1 401 (ck (x1 + 1) 401 (ck (M10.1 44 x1.toNatClampNeg) 401 (if x2 = 0 then f_X12_written_84 x2 ((M10.1 44 (x1 + 1).toNatClampNeg) - (M10.1 44 x1.toNatClampNeg)) (M10.1 38 (M10.1 44 x1.toNatClampNeg).toNatClampNeg) M10
        else if x2 = 9 then f_X12_written_84 x2 ((M10.1 44 (x1 + 1).toNatClampNeg) - (M10.1 44 x1.toNatClampNeg)) (M10.1 38 (M10.1 44 x1.toNatClampNeg).toNatClampNeg) M10
          else if 5 ≤ x2 then if ((M10.1 44 (x1 + 1).toNatClampNeg) - (M10.1 44 x1.toNatClampNeg)) = 1 then some (1, sL M10 105 0 0)
              else ck ((M10.1 44 x1.toNatClampNeg) + 1) 401 (ck (((4 * (M10.1 38 ((M10.1 44 x1.toNatClampNeg) + 1).toNatClampNeg)) + x2) - 5) 1604 (ck (((4 * (M10.1 38 (M10.1 44 x1.toNatClampNeg).toNatClampNeg)) + x2) - 5) 1604 (some (1, sL M10 105 0 ((M10.2.1 24 (((4 * (M10.1 38 ((M10.1 44 x1.toNatClampNeg) + 1).toNatClampNeg)) + x2) - 5).toNatClampNeg) - (M10.2.1 24 (((4 * (M10.1 38 (M10.1 44 x1.toNatClampNeg).toNatClampNeg)) + x2) - 5).toNatClampNeg))))))
            else ck (((4 * (M10.1 38 (M10.1 44 x1.toNatClampNeg).toNatClampNeg)) + x2) - 1) 1604 (some (1, sL M10 105 0 (M10.2.1 24 (((4 * (M10.1 38 (M10.1 44 x1.toNatClampNeg).toNatClampNeg)) + x2) - 1).toNatClampNeg))))))
      else some ((-9), M10))))
  else some ((-1), M))
