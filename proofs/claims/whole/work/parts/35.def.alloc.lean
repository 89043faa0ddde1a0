noncomputable def f_X3_keep_39  (x2 : Nat) (M : Mem) : Option Mem :=
  cN x2 (M.2.2.2.2.2 1) (bm (f_X7_take_kn M x2 (M.1 107 0)) (fun M10 => if 20 ≤ (M10.1 109 0) then nzI 20 (some (sI M10 108 0 (((M10.1 108 0) + 1) - ((M10.1 108 0) + 1) / 20 * 20)))
    else some (sI M10 109 0 ((M10.1 109 0) + 1))))
noncomputable def f_X3_keep (M : Mem) : Option Mem :=
  nzI 20 (ck (((M.1 108 0) + (M.1 109 0)) - ((M.1 108 0) + (M.1 109 0)) / 20 * 20) 20 (oq (M.2.2.1 33 (((M.1 108 0) + (M.1 109 0)) - ((M.1 108 0) + (M.1 109 0)) / 20 * 20).toNatClampNeg) (cP (∀ k, M.2.2.1 33 k ≠ some (M.2.2.2.2.2 1)) (ck (((M.1 108 0) + (M.1 109 0)) - ((M.1 108 0) + (M.1 109 0)) / 20 * 20) 20 (f_X3_keep_39 (M.2.2.2.2.2 1) (sQ (nKt M) 33 (((M.1 108 0) + (M.1 109 0)) - ((M.1 108 0) + (M.1 109 0)) / 20 * 20).toNatClampNeg (some (M.2.2.2.2.2 1))))))
  (fun j3 => f_X3_keep_39 j3 M)))
noncomputable def f_X11_array (M : Mem) (x1 : Int32) (x2 : Int32) : Option (Int32 × Mem) :=
  bq (f_X11_within x1 0 3) (fun r1 => if r1 = true then if x2 ≤ 20 then if (M.1 100 0) < 8 then if 0 ≤ x2 then ck x2 21 (cP (∀ k, M.2.2.1 25 k ≠ some (M.2.2.2.2.2 0)) (ck (M.1 100 0) 8 (some ((((sI (sQ (nRk M x1 x2.toNatClampNeg) 25 (M.1 100 0).toNatClampNeg (some (M.2.2.2.2.2 0))) 100 0 (((sQ (nRk M x1 x2.toNatClampNeg) 25 (M.1 100 0).toNatClampNeg (some (M.2.2.2.2.2 0))).1 100 0) + 1)).1 100 0) - 1), sI (sQ (nRk M x1 x2.toNatClampNeg) 25 (M.1 100 0).toNatClampNeg (some (M.2.2.2.2.2 0))) 100 0 (((sQ (nRk M x1 x2.toNatClampNeg) 25 (M.1 100 0).toNatClampNeg (some (M.2.2.2.2.2 0))).1 100 0) + 1)))))
        else bd (f_X11_meet M 5) (fun r12 M13 => some (r12, M13))
      else some ((-2), M)
    else some ((-1), M)
  else some ((-1), M))
noncomputable def f_X11_swap (M : Mem) (x1 : Int32) (x2 : Int32) : Option (Int32 × Mem) :=
  bq (f_X2_known M x1) (fun r1 => if r1 = true then bq (f_X2_isLoop M x1) (fun r5 => if r5 = true then ck x1 40 (bq (f_X11_within x2 ((M.1 11 x1.toNatClampNeg) + 1) 3) (fun r10 => if r10 = true then bm (f_X3_keep M) (fun M15 => bm (f_X3_swapRows M15 x1 x2) (fun M18 => bd (f_X11_turned M18) (fun r20 M21 => some (r20, M21))))
      else some ((-1), M)))
    else bd (f_X11_meet M 3) (fun r23 M24 => some (r23, M24)))
  else some ((-1), M))
noncomputable def f_X11_lean (M : Mem) (x1 : Int32) (x2 : Int32) (x3 : Int32) : Option (Int32 × Mem) :=
  bq (f_X2_known M x1) (fun r1 => if r1 = true then bq (f_X11_within x2 0 3) (fun r5 => if r5 = true then bq (f_X11_within x3 (-20) 20) (fun r9 => if r9 = true then bq (f_X2_isLoop M x1) (fun r13 => if r13 = true then ck x1 40 (if x2 = (M.1 11 x1.toNatClampNeg) then some ((-1), M)
          else bq (f_X3_leanFits M x1 x2 x3) (fun r19 => if r19 = true then bm (f_X3_keep M) (fun M24 => bm (f_X3_leanRows M24 x1 x2 x3) (fun M27 => bd (f_X11_turned M27) (fun r29 M30 => some (r29, M30))))
            else some ((-6), M)))
        else bd (f_X11_meet M 3) (fun r32 M33 => some (r32, M33)))
      else some ((-1), M))
    else some ((-1), M))
  else some ((-1), M))
noncomputable def f_X11_back (M : Mem) (x1 : Int32) : Option (Int32 × Mem) :=
  bq (f_X2_known M x1) (fun r1 => if r1 = true then bq (f_X2_isLoop M x1) (fun r5 => if r5 = true then bm (f_X3_keep M) (fun M10 => bm (f_X3_turnSigns M10 x1) (fun M13 => bd (f_X11_turned M13) (fun r15 M16 => some (r15, M16))))
    else bd (f_X11_meet M 3) (fun r18 M19 => some (r18, M19)))
  else some ((-1), M))
noncomputable def f_X11_shift (M : Mem) (x1 : Int32) (x2 : Int32) (x3 : Int32) : Option (Int32 × Mem) :=
  bq (f_X2_known M x1) (fun r1 => if r1 = true then bq (f_X11_within x2 0 3) (fun r5 => if r5 = true then bq (f_X11_within x3 (-400) 400) (fun r9 => if r9 = true then bq (f_X2_isAct M x1) (fun r13 => if r13 = true then ck x1 40 (bq (f_X7_loopRow M (M.1 17 x1.toNatClampNeg) x2) (fun r18 => if 0 ≤ r18 then ck r18 1344 (bq (f_X11_rowNumberFits ((M.1 28 r18.toNatClampNeg) + x3)) (fun r23 => if r23 = true then bm (f_X3_keep M) (fun M28 => ck r18 1344 (bd (f_X11_turned (sI M28 28 r18.toNatClampNeg ((M.1 28 r18.toNatClampNeg) + x3))) (fun r31 M32 => some (r31, M32))))
            else some ((-6), M)))
          else some ((-1), M)))
        else bd (f_X11_meet M 3) (fun r34 M35 => some (r34, M35)))
      else some ((-1), M))
    else some ((-1), M))
  else some ((-1), M))
noncomputable def f_X11_tile (M : Mem) (x1 : Int32) (x2 : Int32) (x3 : Int32) : Option (Int32 × Mem) :=
  bq (f_X2_known M x1) (fun r1 => if r1 = true then bq (f_X11_within x2 1 4) (fun r5 => if r5 = true then bq (f_X11_within x3 2 20) (fun r9 => if r9 = true then bq (f_X2_isLoop M x1) (fun r13 => if r13 = true then bq (f_X3_tileFits M x1 x2 x3) (fun r17 => if r17 = true then bm (f_X3_keep M) (fun M22 => bm (f_X3_tileRows M22 x1 x2 x3) (fun M25 => bd (f_X11_turned M25) (fun r27 M28 => some (r27, M28))))
          else some ((-2), M))
        else bd (f_X11_meet M 3) (fun r30 M31 => some (r30, M31)))
      else some ((-1), M))
    else some ((-1), M))
  else some ((-1), M))
noncomputable def f_X11_part (M : Mem) (x1 : Int32) : Option (Int32 × Mem) :=
  bq (f_X2_known M x1) (fun r1 => if r1 = true then bq (f_X2_isLoop M x1) (fun r5 => if r5 = true then bq (f_X3_partFits M x1) (fun r9 => if r9 = true then bm (f_X3_keep M) (fun M14 => bm (f_X3_partRows M14 x1) (fun M17 => bd (f_X11_turned M17) (fun r19 M20 => some (r19, M20))))
      else some ((-6), M))
    else bd (f_X11_meet M 3) (fun r22 M23 => some (r22, M23)))
  else some ((-1), M))
noncomputable def f_X11_join_46   (M : Mem) : Option (Int32 × Mem) :=
  bd (f_X11_meet M 3) (fun r34 M35 => some (r34, M35))
noncomputable def f_X11_join (M : Mem) (x1 : Int32) (x2 : Int32) : Option (Int32 × Mem) :=
  bq (f_X2_known M x1) (fun r1 => if r1 = true then bq (f_X2_known M x2) (fun r5 => if r5 = true then bq (f_X2_isLoop M x1) (fun r9 => if r9 = true then bq (f_X2_isLoop M x2) (fun r13 => if r13 = true then ck x1 40 (ck x2 40 (if (M.1 10 x1.toNatClampNeg) = (M.1 10 x2.toNatClampNeg) then if x1 < x2 then bq (f_X2_firstActIn M x1) (fun r21 => if 0 ≤ r21 then bm (f_X3_keep M) (fun M26 => bm (f_X3_joinRows M26 r21 x2) (fun M29 => bd (f_X11_turned M29) (fun r31 M32 => some (r31, M32))))
              else some ((-1), M))
            else some ((-1), M)
          else some ((-1), M)))
        else f_X11_join_46 M)
      else f_X11_join_46 M)
    else some ((-1), M))
  else some ((-1), M))
noncomputable def f_X11_best_134  (x4 : Int32) (M : Mem) : Option (Int32 × Mem) :=
  bm (f_X11_ordersChanged M) (fun M38 => some (x4, M38))
noncomputable def f_X11_best_66  : Nat → Int32 → Int32 → Int32 → Int32 → Int32 → Int32 → Int32 → Mem → Option (Int32 × Mem)
  | 0, _, _, _, _, _, _, _, _ => none
  | n66 + 1, x1, x2, x3, x4, x5, x6, x7, M => if x6 ≤ x7 then if x5 ≤ 0 then f_X11_best_134 x4 M
        else bm (f_X3_keep M) (fun M26 => bm (f_X11_makeChoice M26 x1 x5) (fun M29 => f_X11_best_134 x4 M29))
      else bd (f_X11_tryChoice M x1 x7 x2 x3) (fun r31 M32 => if r31 < 0 then f_X11_best_66 n66 x1 x2 x3 x4 x5 x6 (x7 + 1) M32
        else if x4 < 0 then f_X11_best_66 n66 x1 x2 x3 r31 x7 x6 (x7 + 1) M32
          else if x4 ≤ r31 then f_X11_best_66 n66 x1 x2 x3 x4 x5 x6 (x7 + 1) M32
            else f_X11_best_66 n66 x1 x2 x3 r31 x7 x6 (x7 + 1) M32)
noncomputable def f_X11_best (M : Mem) (x1 : Int32) (x2 : Int32) (x3 : Int32) : Option (Int32 × Mem) :=
  bq (f_X2_known M x1) (fun r1 => if r1 = true then bq (f_X11_roomFits x2 x3) (fun r5 => if r5 = true then bd (f_X11_tooMany M) (fun r9 M10 => if r9 = true then some ((-6), M10)
      else bq (f_X2_isLoop M10 x1) (fun r13 => if r13 = true then bq (f_X11_choicesOf M10 x1) (fun r17 => f_X11_best_66 100000 x1 x2 x3 (-9) (-9) r17 0 M10)
        else bd (f_X11_meet M10 3) (fun r20 M21 => some (r20, M21))))
    else some ((-1), M))
  else some ((-1), M))
