def zI (M : Mem) (c : Nat) (f : Nat → Int32) : Mem := (va_up M.1 c f, M.2)
def f_X5_hasRow (M : Mem) (i0 : Nat) (x1 : Int64) : Option Bool :=
  if x1 < 0 then some false
  else if (nI (M.2.2.2.2.2 (i0 + 2))).toInt64 ≤ x1 then some false
    else some true
def f_X5_renew (M : Mem) (i0 : Nat) (x1 : Int32) (x2 : Int32) : Option Mem :=
  ck x1 (M.2.2.2.2.2 (i0 + 2)) (cf (x1 * 20) ((x1 * 20) + x2) ((tI M (4 * i0 + 1) x1.toNatClampNeg x2).2.2.2.2.2 (i0 + 2) * 20) (cN ((tI M (4 * i0 + 1) x1.toNatClampNeg x2).2.2.2.2.2 (i0 + 2) * 20) 2147483648 (some (tLf (tI M (4 * i0 + 1) x1.toNatClampNeg x2) i0 (fl_ ((tI M (4 * i0 + 1) x1.toNatClampNeg x2).2.2.2.2.1 i0) (x1 * 20).toNatClampNeg ((x1 * 20) + x2).toNatClampNeg 0)))))
def f_X5_lack (M : Mem) (i0 : Nat) (x1 : Int64) (x3 : Int64) : Option Int32 :=
  bq (f_X5_hasRow M i0 x1) (fun r1 => if r1 = true then ck x1.toInt32 (M.2.2.2.2.2 (i0 + 2)) (if ((M.2.2.2.1 (4 * i0 + 1)) x1.toInt32.toNatClampNeg) = (-1) then some 1
    else if x3 < 0 then some 2
      else if ((M.2.2.2.1 (4 * i0 + 1)) x1.toInt32.toNatClampNeg).toInt64 ≤ x3 then some 2
        else some 0)
  else some 2)
def f_X5_load (M : Mem) (i0 : Nat) (x1 : Int32) (x2 : Int32) : Option Int64 :=
  ck ((x1 * 20) + x2) (M.2.2.2.2.2 (i0 + 2) * 20) (some (((M.2.2.2.2.1 i0) ((x1 * 20) + x2).toNatClampNeg)))
def f_X5_cut (M : Mem) (i0 : Nat) (x1 : Int64) : Option Int64 :=
  if (M.2.2.2.1 (4 * i0) 0) = 0 then some x1.toInt32.toInt8.toInt32.toInt64
  else if (M.2.2.2.1 (4 * i0) 0) = 1 then some x1.toInt32.toInt16.toInt32.toInt64
  else if (M.2.2.2.1 (4 * i0) 0) = 2 then some x1.toInt32.toInt64
  else some x1
def f_X5_mix_28 (k2 : Nat → Int64 → Int32 → Mem → Option Int64) : Nat → Nat → Int64 → Int32 → Int32 → Mem → Option Int64
  | 0, _, _, _, _, _ => none
  | n28 + 1, x0, x1, x3, x4, M => cN x0 (M.2.2.2.2.2 0) (ck x3 (M.2.2.2.2.2 (x0 + 2)) (if ((M.2.2.2.1 (4 * x0 + 1)) x3.toNatClampNeg) ≤ x4 then k2 x0 x1 (x3 + 1) M
          else bq (f_X5_load M x0 x3 x4) (fun r7 => f_X5_mix_28 k2 n28 x0 ((31 * x1) + r7) x3 (x4 + 1) M)))
def f_X5_mix_2  : Nat → Nat → Int64 → Int32 → Mem → Option Int64
  | 0, _, _, _, _ => none
  | n2 + 1, x0, x1, x3, M => cN x0 (M.2.2.2.2.2 0) (if (nI (M.2.2.2.2.2 (x0 + 2))) ≤ x3 then some x1
      else ck x3 (M.2.2.2.2.2 (x0 + 2)) (f_X5_mix_28 (f_X5_mix_2 n2) 100000 x0 ((31 * x1) + ((M.2.2.2.1 (4 * x0 + 1)) x3.toNatClampNeg).toInt64) x3 0 M))
def f_X5_mix (M : Mem) (i0 : Nat) (x1 : Int64) : Option Int64 :=
  f_X5_mix_2 100000 i0 x1 0 M
def f_X7_take_kn (M : Mem) (i0 : Nat) (x2 : Int32) : Option Mem :=
  ca 0 0 ((x2 * 16) * 7) 1344 1344 (ca 0 0 x2 12 12 (some (tIf (tIf M (4 * i0 + 2) (va_cpy (M.1 28) (M.2.2.2.1 (4 * i0 + 2)) (0 : Int32).toNatClampNeg (0 : Int32).toNatClampNeg ((x2 * 16) * 7).toNatClampNeg)) (4 * i0 + 3) (va_cpy ((tIf M (4 * i0 + 2) (va_cpy (M.1 28) (M.2.2.2.1 (4 * i0 + 2)) (0 : Int32).toNatClampNeg (0 : Int32).toNatClampNeg ((x2 * 16) * 7).toNatClampNeg)).1 29) ((tIf M (4 * i0 + 2) (va_cpy (M.1 28) (M.2.2.2.1 (4 * i0 + 2)) (0 : Int32).toNatClampNeg (0 : Int32).toNatClampNeg ((x2 * 16) * 7).toNatClampNeg)).2.2.2.1 (4 * i0 + 3)) (0 : Int32).toNatClampNeg (0 : Int32).toNatClampNeg x2.toNatClampNeg))))
def f_X7_take_nk (M : Mem) (i1 : Nat) (x2 : Int32) : Option Mem :=
  ca 0 0 ((x2 * 16) * 7) 1344 1344 (ca 0 0 x2 12 12 (some (zI (zI M 28 (va_cpy (M.2.2.2.1 (4 * i1 + 2)) (M.1 28) (0 : Int32).toNatClampNeg (0 : Int32).toNatClampNeg ((x2 * 16) * 7).toNatClampNeg)) 29 (va_cpy ((zI M 28 (va_cpy (M.2.2.2.1 (4 * i1 + 2)) (M.1 28) (0 : Int32).toNatClampNeg (0 : Int32).toNatClampNeg ((x2 * 16) * 7).toNatClampNeg)).2.2.2.1 (4 * i1 + 3)) ((zI M 28 (va_cpy (M.2.2.2.1 (4 * i1 + 2)) (M.1 28) (0 : Int32).toNatClampNeg (0 : Int32).toNatClampNeg ((x2 * 16) * 7).toNatClampNeg)).1 29) (0 : Int32).toNatClampNeg (0 : Int32).toNatClampNeg x2.toNatClampNeg))))
def f_X3_takeBack (M : Mem) : Option Mem :=
  nzI 20 (ck ((((sI M 109 0 ((M.1 109 0) - 1)).1 108 0) + ((sI M 109 0 ((M.1 109 0) - 1)).1 109 0)) - (((sI M 109 0 ((M.1 109 0) - 1)).1 108 0) + ((sI M 109 0 ((M.1 109 0) - 1)).1 109 0)) / 20 * 20) 20 (oq ((sI M 109 0 ((M.1 109 0) - 1)).2.2.1 33 ((((sI M 109 0 ((M.1 109 0) - 1)).1 108 0) + ((sI M 109 0 ((M.1 109 0) - 1)).1 109 0)) - (((sI M 109 0 ((M.1 109 0) - 1)).1 108 0) + ((sI M 109 0 ((M.1 109 0) - 1)).1 109 0)) / 20 * 20).toNatClampNeg) (some (sI M 109 0 ((M.1 109 0) - 1)))
  (fun j3 => cN j3 ((sI M 109 0 ((M.1 109 0) - 1)).2.2.2.2.2 1) (bm (f_X7_take_nk (sI M 109 0 ((M.1 109 0) - 1)) j3 ((sI M 109 0 ((M.1 109 0) - 1)).1 107 0)) (fun M7 => some M7)))))
def f_X11_undo (M : Mem) : Option (Int32 × Mem) :=
  if 0 < (M.1 109 0) then bm (f_X3_takeBack M) (fun M3 => bm (f_X11_ordersChanged M3) (fun M6 => some ((M6.1 109 0), M6)))
  else some ((-4), M)
def f_X11_rackOf (M : Mem) (x1 : Int32) : Option (Option Nat) :=
  bq (f_X11_within x1 0 ((M.1 100 0) - 1)) (fun r1 => if r1 = true then ck x1 8 (oq (M.2.2.1 25 x1.toNatClampNeg) (some none)
    (fun j6 => some (some j6)))
  else some none)
def f_X11_lackAt (M : Mem) (x1 : Int32) (x2 : Int32) : Option Int32 :=
  bq (f_X9_arrayAt M x1 x2) (fun r1 => bq (f_X11_rackOf M r1) (fun r4 => oq r4 (some 0)
  (fun j7 => ck ((x1 * 3) + x2) 1200 (ck ((x1 * 3) + x2) 1200 (cN j7 (M.2.2.2.2.2 0) (bq (f_X5_lack M j7 (M.2.1 39 ((x1 * 3) + x2).toNatClampNeg) (M.2.1 40 ((x1 * 3) + x2).toNatClampNeg)) (fun r12 => some r12)))))))
def f_X11_loadAt (M : Mem) (x1 : Int32) (x2 : Int32) : Option Int64 :=
  bq (f_X9_arrayAt M x1 x2) (fun r1 => bq (f_X11_rackOf M r1) (fun r4 => oq r4 (some 0)
  (fun j7 => ck ((x1 * 3) + x2) 1200 (ck ((x1 * 3) + x2) 1200 (cN j7 (M.2.2.2.2.2 0) (bq (f_X5_load M j7 (M.2.1 39 ((x1 * 3) + x2).toNatClampNeg).toInt32 (M.2.1 40 ((x1 * 3) + x2).toNatClampNeg).toInt32) (fun r12 => some r12)))))))
def f_X5_store (M : Mem) (i0 : Nat) (x1 : Int32) (x2 : Int32) (x3 : Int64) : Option Mem :=
  bq (f_X5_cut M i0 x3) (fun r1 => ck ((x1 * 20) + x2) (M.2.2.2.2.2 (i0 + 2) * 20) (some (tL M i0 ((x1 * 20) + x2).toNatClampNeg r1)))
def f_X11_aim (M : Mem) (x1 : Int32) (x2 : Int32) (x3 : Int32) (x4 : Int32) (x5 : Int32) : Option (Int32 × Mem) :=
  bq (f_X2_known M x1) (fun r1 => if r1 = true then bq (f_X11_within x2 0 2) (fun r5 => if r5 = true then bq (f_X11_rackOf M x3) (fun r9 => oq r9 (some ((-1), M))
      (fun j12 => bq (f_X8_known M x4) (fun r14 => if r14 = true then bq (f_X8_known M x5) (fun r18 => if r18 = true then bq (f_X2_isAct M x1) (fun r22 => if r22 = true then ck x1 40 (bq (f_X8_fits M x4 (M.1 11 x1.toNatClampNeg)) (fun r27 => if r27 = true then bq (f_X8_fits M x5 (M.1 11 x1.toNatClampNeg)) (fun r31 => if r31 = true then ck x1 40 (bm (f_X2_setAim M (((M.1 17 x1.toNatClampNeg) * 3) + x2) x3 x4 x5) (fun M37 => bm (f_X11_aimsChanged M37) (fun M40 => some (1, M40))))
                else some ((-1), M))
              else some ((-1), M)))
            else bd (f_X11_meet M 3) (fun r42 M43 => some (r42, M43)))
          else some ((-1), M))
        else some ((-1), M))))
    else some ((-1), M))
  else some ((-1), M))
def f_X11_row (M : Mem) (x1 : Int32) (x2 : Int32) (x3 : Int32) : Option (Int32 × Mem) :=
  bq (f_X11_rackOf M x1) (fun r1 => oq r1 (some ((-1), M))
  (fun j4 => if x3 ≤ 20 then cN j4 (M.2.2.2.2.2 0) (bq (f_X5_hasRow M j4 x2.toInt64) (fun r8 => if r8 = true then if 0 ≤ x3 then bm (f_X5_renew M j4 x2 x3) (fun M14 => some (x3, M14))
        else bd (f_X11_meet M 5) (fun r16 M17 => some (r16, M17))
      else bd (f_X11_meet M 2) (fun r19 M20 => some (r19, M20))))
    else some ((-1), M)))
def f_X11_tear (M : Mem) (x1 : Int32) (x2 : Int32) : Option (Int32 × Mem) :=
  bq (f_X11_rackOf M x1) (fun r1 => oq r1 (some ((-1), M))
  (fun j4 => cN j4 (M.2.2.2.2.2 0) (bq (f_X5_hasRow M j4 x2.toInt64) (fun r7 => if r7 = true then ck x2 (M.2.2.2.2.2 (j4 + 2)) (some (1, tI M (4 * j4 + 1) x2.toNatClampNeg (-1)))
    else bd (f_X11_meet M 2) (fun r12 M13 => some (r12, M13))))))
def f_X11_lay (M : Mem) (x1 : Int32) (x2 : Int32) (x3 : Int32) (x4 : Int64) : Option (Int32 × Mem) :=
  bq (f_X11_rackOf M x1) (fun r1 => oq r1 (some ((-1), M))
  (fun j4 => cN j4 (M.2.2.2.2.2 0) (bq (f_X5_lack M j4 x2.toInt64 x3.toInt64) (fun r7 => if r7 = 0 then bm (f_X5_store M j4 x2 x3 x4) (fun M12 => some (1, M12))
    else bd (f_X11_meet M r7) (fun r14 M15 => some (r14, M15))))))
def f_X11_get (M : Mem) (x1 : Int32) (x2 : Int32) (x3 : Int32) : Option (Int32 × Mem) :=
  bq (f_X11_rackOf M x1) (fun r1 => oq r1 (some ((-1), M))
  (fun j4 => cN j4 (M.2.2.2.2.2 0) (bq (f_X5_lack M j4 x2.toInt64 x3.toInt64) (fun r7 => if r7 = 0 then bq (f_X5_load M j4 x2 x3) (fun r11 => some (1, sL M 101 0 r11))
    else bd (f_X11_meet M r7) (fun r14 M15 => some (r14, M15))))))
def f_X11_digest_50 (k36 : Int64 → Int32 → Mem → Option Int64) : Nat → Int64 → Int32 → Int32 → Mem → Option Int64
  | 0, _, _, _, _ => none
  | n50 + 1, x1, x3, x4, M => if 4 < x4 then k36 x1 (x3 + 1) M
              else bq (f_X2_tell M x3 x4) (fun r8 => f_X11_digest_50 k36 n50 ((31 * x1) + r8.toInt64) x3 (x4 + 1) M)
def f_X11_digest_107  : Nat → Int64 → Int32 → Mem → Option Int64
  | 0, _, _, _ => none
  | n107 + 1, x1, x3, M => if (M.1 100 0) ≤ x3 then some x1
              else bq (f_X11_rackOf M x3) (fun r12 => oq r12 (f_X11_digest_107 n107 x1 (x3 + 1) M)
                (fun j15 => cN j15 (M.2.2.2.2.2 0) (bq (f_X5_mix M j15 x1) (fun r18 => f_X11_digest_107 n107 r18 (x3 + 1) M))))
def f_X11_digest_36  : Nat → Int64 → Int32 → Mem → Option Int64
  | 0, _, _, _ => none
  | n36 + 1, x1, x3, M => if (M.1 106 0) ≤ x3 then bq (f_X7_mix M x1 (M.1 107 0)) (fun r4 => f_X11_digest_107 100000 r4 0 M)
          else f_X11_digest_50 (f_X11_digest_36 n36) 100000 x1 x3 0 M
def f_X11_digest_6  : Nat → Int64 → Int32 → Mem → Option Int64
  | 0, _, _, _ => none
  | n6 + 1, x1, x3, M => if 3 ≤ x3 then f_X11_digest_36 100000 x1 0 M
      else ck x3 3 (f_X11_digest_6 n6 ((31 * x1) + (M.1 2 x3.toNatClampNeg).toInt64) (x3 + 1) M)
def f_X11_digest (M : Mem) : Option Int64 :=
  f_X11_digest_6 100000 17 0 M
def f_X11_perform_71  (x1 : Int32) (x3 : Int32) (x4 : Int64) (x6 : Int64) (M : Mem) : Option (Int32 × Mem) :=
  bq (f_X11_lackAt M x1 0) (fun r21 => if r21 = 0 then bq (f_X9_arrayAt M x1 0) (fun r25 => bq (f_X11_rackOf M r25) (fun r28 => oq r28 (some (0, M))
        (fun j31 => ck (x1 * 3) 1200 (ck (x1 * 3) 1200 (bq (f_X11_outcome M x3 x4 x6) (fun r35 => cN j31 (M.2.2.2.2.2 0) (bm (f_X5_store M j31 (M.2.1 39 (x1 * 3).toNatClampNeg).toInt32 (M.2.1 40 (x1 * 3).toNatClampNeg).toInt32 r35) (fun M40 => some (0, M40)))))))))
      else some (r21, M))
def f_X11_perform_18  (x1 : Int32) (x2 : Int32) (M : Mem) : Option (Int32 × Mem) :=
  if x2 = 0 then bq (f_X0_actNode M x1) (fun r9 => bq (f_X11_loadAt M x1 1) (fun r12 => bq (f_X11_loadAt M x1 2) (fun r15 => ck r9 40 (if (M.1 12 r9.toNatClampNeg) = 3 then if r15 = 0 then some (4, M)
        else f_X11_perform_71 x1 r9 r12 r15 M
      else f_X11_perform_71 x1 r9 r12 r15 M))))
    else some (x2, M)
def f_X11_perform (M : Mem) (x1 : Int32) : Option (Int32 × Mem) :=
  bq (f_X11_lackAt M x1 1) (fun r1 => if r1 = 0 then bq (f_X11_lackAt M x1 2) (fun r5 => f_X11_perform_18 x1 r5 M)
  else f_X11_perform_18 x1 r1 M)
def f_X11_run_91  (x2 : Int32) (M : Mem) : Option (Int32 × Mem) :=
  if x2 = 0 then some ((M.1 103 0), M)
        else bd (f_X11_meet M x2) (fun r21 M22 => some (r21, M22))
def f_X11_run_32  : Nat → Bool → Int32 → Int32 → Mem → Option (Int32 × Mem)
  | 0, _, _, _, _ => none
  | n32 + 1, x1, x2, x3, M => if (M.1 110 0) ≤ x3 then f_X11_run_91 x2 M
      else if x2 = 0 then bd (f_X11_visitAt M x3 x1) (fun r10 M11 => bd (f_X11_perform M11 r10) (fun r13 M14 => if r13 = 0 then f_X11_run_32 n32 x1 r13 (x3 + 1) (sI M14 103 0 ((M14.1 103 0) + 1))
          else bm (f_X11_endAt M14 r10) (fun M18 => f_X11_run_32 n32 x1 r13 (x3 + 1) M18)))
        else f_X11_run_91 x2 M
def f_X11_run (M : Mem) (x1 : Bool) : Option (Int32 × Mem) :=
  bd (f_X11_tooMany M) (fun r1 M2 => if r1 = true then some ((-6), M2)
  else bm (f_X9_refresh M2) (fun M6 => f_X11_run_32 100000 x1 0 0 (sI (sI M6 103 0 0) 104 0 (-9))))
