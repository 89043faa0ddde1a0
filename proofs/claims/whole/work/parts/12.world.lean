/-! printed by wip/gen/gen1.py: the worlds of the class and of the reference -/
abbrev rkC (K : Kx) (d : Nat → Nat) (M : Mem) (i : Nat) : va_W := [(d (6 * i), .inr (5, [.int (M.2.2.2.1 (4 * i) 0), .ref (d (6 * i + 1)), .ref (d (6 * i + 2))])), (d (6 * i + 1), .inl (K.2 0, M.2.2.2.2.2 (i + 2), .inl (M.2.2.2.1 (4 * i + 1)))), (d (6 * i + 2), .inl (K.2 1, M.2.2.2.2.2 (i + 2) * 20, .inr (.inl (M.2.2.2.2.1 i))))]
abbrev ktC (K : Kx) (d : Nat → Nat) (M : Mem) (i : Nat) : va_W := [(d (6 * i + 3), .inr (7, [.ref (d (6 * i + 4)), .ref (d (6 * i + 5))])), (d (6 * i + 4), .inl (K.2 0, 1344, .inl (M.2.2.2.1 (4 * i + 2)))), (d (6 * i + 5), .inl (K.2 0, 12, .inl (M.2.2.2.1 (4 * i + 3))))]
def wRk (K : Kx) (d : Nat → Nat) (M : Mem) : va_W := (List.range (M.2.2.2.2.2 0)).flatMap (rkC K d M)
def wKt (K : Kx) (d : Nat → Nat) (M : Mem) : va_W := (List.range (M.2.2.2.2.2 1)).flatMap (ktC K d M)
def wSt (K : Kx) (a d : Nat → Nat) (M : Mem) : va_W := [(a 0, .inr (11, [.ref (a 1), .ref (a 5), .ref (a 21), .ref (a 25), .int (M.1 100 0), .ref (a 26), .ref (a 34), .ref (a 38), .ref (a 43), .ref (a 55), .ref (a 63), .long (M.2.1 101 0), .int (M.1 102 0), .ref (a 67), .int (M.1 103 0), .int (M.1 104 0), .ref (a 68)])),
  (a 1, .inr (8, [.ref (a 2), .ref (a 3), .ref (a 4), .int (M.1 105 0)])),
  (a 2, .inl (K.2 0, 3, .inl (M.1 2))),
  (a 3, .inl (K.2 0, 8, .inl (M.1 3))),
  (a 4, .inl (K.2 0, 640, .inl (M.1 4))),
  (a 5, .inr (2, [.ref (a 6), .ref (a 7), .ref (a 8), .ref (a 9), .ref (a 10), .ref (a 11), .ref (a 12), .ref (a 13), .ref (a 14), .ref (a 15), .int (M.1 106 0), .ref (a 16), .ref (a 17), .int (M.1 107 0), .ref (a 18), .ref (a 19), .ref (a 20)])),
  (a 6, .inl (K.2 0, 41, .inl (M.1 6))),
  (a 7, .inl (K.2 0, 41, .inl (M.1 7))),
  (a 8, .inl (K.2 0, 40, .inl (M.1 8))),
  (a 9, .inl (K.2 0, 40, .inl (M.1 9))),
  (a 10, .inl (K.2 0, 40, .inl (M.1 10))),
  (a 11, .inl (K.2 0, 40, .inl (M.1 11))),
  (a 12, .inl (K.2 0, 40, .inl (M.1 12))),
  (a 13, .inl (K.2 0, 40, .inl (M.1 13))),
  (a 14, .inl (K.2 0, 160, .inl (M.1 14))),
  (a 15, .inl (K.2 0, 200, .inl (M.1 15))),
  (a 16, .inl (K.2 0, 12, .inl (M.1 16))),
  (a 17, .inl (K.2 0, 40, .inl (M.1 17))),
  (a 18, .inl (K.2 0, 36, .inl (M.1 18))),
  (a 19, .inl (K.2 0, 36, .inl (M.1 19))),
  (a 20, .inl (K.2 0, 36, .inl (M.1 20))),
  (a 21, .inr (4, [.ref (a 22), .ref (a 23), .ref (a 24)])),
  (a 22, .inl (K.2 0, 40, .inl (M.1 22))),
  (a 23, .inl (K.2 0, 40, .inl (M.1 23))),
  (a 24, .inl (K.2 2, 480, .inl (M.1 24))),
  (a 25, .inl (K.2 3, 8, .inr (.inr (.inr (.inr (fun k => (M.2.2.1 25 k).map (fun i => d (6 * i)))))))),
  (a 26, .inr (3, [.ref (a 5), .ref (a 27), .ref (a 30), .ref (a 33), .int (M.1 108 0), .int (M.1 109 0)])),
  (a 27, .inr (7, [.ref (a 28), .ref (a 29)])),
  (a 28, .inl (K.2 0, 1344, .inl (M.1 28))),
  (a 29, .inl (K.2 0, 12, .inl (M.1 29))),
  (a 30, .inr (7, [.ref (a 31), .ref (a 32)])),
  (a 31, .inl (K.2 0, 1344, .inl (M.1 31))),
  (a 32, .inl (K.2 0, 12, .inl (M.1 32))),
  (a 33, .inl (K.2 4, 20, .inr (.inr (.inr (.inr (fun k => (M.2.2.1 33 k).map (fun i => d (6 * i + 3)))))))),
  (a 34, .inr (0, [.ref (a 1), .ref (a 5), .ref (a 35), .ref (a 36), .ref (a 37), .int (M.1 110 0), .int (M.1 111 0), .int (bI (zb (M.1 112 0))), .int (bI (zb (M.1 113 0)))])),
  (a 35, .inl (K.2 0, 400, .inl (M.1 35))),
  (a 36, .inl (K.2 1, 1600, .inr (.inl (M.2.1 36)))),
  (a 37, .inl (K.2 1, 4, .inr (.inl (M.2.1 37)))),
  (a 38, .inr (9, [.ref (a 1), .ref (a 5), .ref (a 34), .ref (a 39), .ref (a 40), .ref (a 41), .int (M.1 114 0), .ref (a 42), .int (bI (zb (M.1 115 0)))])),
  (a 39, .inl (K.2 1, 1200, .inr (.inl (M.2.1 39)))),
  (a 40, .inl (K.2 1, 1200, .inr (.inl (M.2.1 40)))),
  (a 41, .inl (K.2 0, 1200, .inl (M.1 41))),
  (a 42, .inl (K.2 0, 2048, .inl (M.1 42))),
  (a 43, .inr (1, [.ref (a 5), .ref (a 34), .ref (a 38), .ref (a 44), .ref (a 45), .ref (a 46), .ref (a 47), .ref (a 48), .ref (a 49), .ref (a 50), .ref (a 51), .ref (a 52), .ref (a 53), .ref (a 54), .int (bI (zb (M.1 116 0)))])),
  (a 44, .inl (K.2 0, 432, .inl (M.1 44))),
  (a 45, .inl (K.2 0, 5, .inl (M.1 45))),
  (a 46, .inl (K.2 0, 144, .inl (M.1 46))),
  (a 47, .inl (K.2 0, 720, .inl (M.1 47))),
  (a 48, .inl (K.2 0, 144, .inl (M.1 48))),
  (a 49, .inl (K.2 1, 576, .inr (.inl (M.2.1 49)))),
  (a 50, .inl (K.2 1, 576, .inr (.inl (M.2.1 50)))),
  (a 51, .inl (K.2 0, 1200, .inl (M.1 51))),
  (a 52, .inl (K.2 0, 400, .inl (M.1 52))),
  (a 53, .inl (K.2 0, 1200, .inl (M.1 53))),
  (a 54, .inl (K.2 0, 800, .inl (M.1 54))),
  (a 55, .inr (10, [.ref (a 26), .ref (a 34), .ref (a 38), .ref (a 56), .ref (a 57), .ref (a 58), .ref (a 59), .int (bI (zb (M.1 117 0))), .ref (a 60), .ref (a 61), .int (M.1 118 0), .int (M.1 119 0), .int (M.1 120 0), .int (bI (zb (M.1 121 0))), .ref (a 62), .int (M.1 122 0), .int (bI (zb (M.1 123 0)))])),
  (a 56, .inl (K.2 1, 6400, .inr (.inl (M.2.1 56)))),
  (a 57, .inl (K.2 0, 400, .inl (M.1 57))),
  (a 58, .inl (K.2 0, 400, .inl (M.1 58))),
  (a 59, .inl (K.2 0, 400, .inl (M.1 59))),
  (a 60, .inl (K.2 0, 1200, .inl (M.1 60))),
  (a 61, .inl (K.2 0, 1200, .inl (M.1 61))),
  (a 62, .inl (K.2 0, 401, .inl (M.1 62))),
  (a 63, .inr (6, [.ref (a 64), .ref (a 65), .ref (a 66), .int (M.1 124 0), .int (M.1 125 0)])),
  (a 64, .inl (K.2 0, 16, .inl (M.1 64))),
  (a 65, .inl (K.2 1, 16, .inr (.inl (M.2.1 65)))),
  (a 66, .inl (K.2 1, 16, .inr (.inl (M.2.1 66)))),
  (a 67, .inl (K.2 0, 6, .inl (M.1 67))),
  (a 68, .inl (K.2 1, 4, .inr (.inl (M.2.1 68))))]
def wC (K : Kx) (a d : Nat → Nat) (M : Mem) : va_W := (wSt K a d M ++ wRk K d M) ++ wKt K d M
def wM (K : Kx) (a : Nat → Nat) (M : Mem) : va_W := [(a 0, .inr (12, [.int (M.1 100 0), .ref (a 1), .ref (a 2), .ref (a 3), .int (M.1 101 0), .ref (a 4), .ref (a 5), .int (M.1 102 0), .ref (a 6), .ref (a 7), .ref (a 8), .ref (a 9), .ref (a 10), .int (M.1 103 0), .ref (a 11), .ref (a 12), .ref (a 13), .ref (a 14), .ref (a 15), .ref (a 16), .ref (a 17), .ref (a 18), .int (M.1 104 0), .ref (a 19), .ref (a 20), .ref (a 21), .ref (a 22), .long (M.2.1 105 0), .int (M.1 106 0), .ref (a 23), .ref (a 24), .int (M.1 107 0), .int (bI (zb (M.1 108 0))), .ref (a 25), .ref (a 26), .ref (a 27), .ref (a 28), .ref (a 29), .ref (a 30), .ref (a 31), .int (M.1 109 0), .ref (a 32), .ref (a 33), .ref (a 34), .ref (a 35), .ref (a 36), .ref (a 37), .ref (a 38), .ref (a 39), .int (M.1 110 0), .int (M.1 111 0), .int (M.1 112 0), .ref (a 40), .long (M.2.1 113 0), .long (M.2.1 114 0), .ref (a 41), .ref (a 42), .ref (a 43), .int (M.1 115 0), .int (M.1 116 0), .ref (a 44)])),
  (a 1, .inl (K.2 0, 6, .inl (M.1 1))),
  (a 2, .inl (K.2 0, 3, .inl (M.1 2))),
  (a 3, .inl (K.2 0, 8, .inl (M.1 3))),
  (a 4, .inl (K.2 0, 640, .inl (M.1 4))),
  (a 5, .inl (K.2 1, 4, .inr (.inl (M.2.1 5)))),
  (a 6, .inl (K.2 0, 40, .inl (M.1 6))),
  (a 7, .inl (K.2 0, 40, .inl (M.1 7))),
  (a 8, .inl (K.2 0, 40, .inl (M.1 8))),
  (a 9, .inl (K.2 0, 40, .inl (M.1 9))),
  (a 10, .inl (K.2 0, 40, .inl (M.1 10))),
  (a 11, .inl (K.2 0, 120, .inl (M.1 11))),
  (a 12, .inl (K.2 0, 120, .inl (M.1 12))),
  (a 13, .inl (K.2 0, 120, .inl (M.1 13))),
  (a 14, .inl (K.2 0, 40, .inl (M.1 14))),
  (a 15, .inl (K.2 0, 40, .inl (M.1 15))),
  (a 16, .inl (K.2 0, 40, .inl (M.1 16))),
  (a 17, .inl (K.2 2, 480, .inl (M.1 17))),
  (a 18, .inl (K.2 2, 12, .inl (M.1 18))),
  (a 19, .inl (K.2 0, 8, .inl (M.1 19))),
  (a 20, .inl (K.2 0, 8, .inl (M.1 20))),
  (a 21, .inl (K.2 0, 160, .inl (M.1 21))),
  (a 22, .inl (K.2 1, 3200, .inr (.inl (M.2.1 22)))),
  (a 23, .inl (K.2 0, 401, .inl (M.1 23))),
  (a 24, .inl (K.2 1, 1604, .inr (.inl (M.2.1 24)))),
  (a 25, .inl (K.2 0, 41, .inl (M.1 25))),
  (a 26, .inl (K.2 0, 41, .inl (M.1 26))),
  (a 27, .inl (K.2 1, 41, .inr (.inl (M.2.1 27)))),
  (a 28, .inl (K.2 1, 1200, .inr (.inl (M.2.1 28)))),
  (a 29, .inl (K.2 1, 1200, .inr (.inl (M.2.1 29)))),
  (a 30, .inl (K.2 0, 40, .inl (M.1 30))),
  (a 31, .inl (K.2 0, 4480, .inl (M.1 31))),
  (a 32, .inl (K.2 0, 800, .inl (M.1 32))),
  (a 33, .inl (K.2 0, 89600, .inl (M.1 33))),
  (a 34, .inl (K.2 0, 40, .inl (M.1 34))),
  (a 35, .inl (K.2 0, 4480, .inl (M.1 35))),
  (a 36, .inl (K.2 1, 5, .inr (.inl (M.2.1 36)))),
  (a 37, .inl (K.2 1, 6400, .inr (.inl (M.2.1 37)))),
  (a 38, .inl (K.2 0, 401, .inl (M.1 38))),
  (a 39, .inl (K.2 0, 401, .inl (M.1 39))),
  (a 40, .inl (K.2 0, 6, .inl (M.1 40))),
  (a 41, .inl (K.2 0, 17, .inl (M.1 41))),
  (a 42, .inl (K.2 1, 17, .inr (.inl (M.2.1 42)))),
  (a 43, .inl (K.2 1, 17, .inr (.inl (M.2.1 43)))),
  (a 44, .inl (K.2 0, 401, .inl (M.1 44)))]
theorem zb_bI (b : Bool) : zb (bI b) = b := by cases b <;> rfl
theorem pC_0 (K : Kx) (a d : Nat → Nat) (M : Mem) : (wC K a d M)[0]? = some (a 0, .inr (11, [.ref (a 1), .ref (a 5), .ref (a 21), .ref (a 25), .int (M.1 100 0), .ref (a 26), .ref (a 34), .ref (a 38), .ref (a 43), .ref (a 55), .ref (a 63), .long (M.2.1 101 0), .int (M.1 102 0), .ref (a 67), .int (M.1 103 0), .int (M.1 104 0), .ref (a 68)])) := rfl
theorem pC_1 (K : Kx) (a d : Nat → Nat) (M : Mem) : (wC K a d M)[1]? = some (a 1, .inr (8, [.ref (a 2), .ref (a 3), .ref (a 4), .int (M.1 105 0)])) := rfl
theorem pC_2 (K : Kx) (a d : Nat → Nat) (M : Mem) : (wC K a d M)[2]? = some (a 2, .inl (K.2 0, 3, .inl (M.1 2))) := rfl
theorem uC_2 (K : Kx) (a d : Nat → Nat) (M : Mem) (k : Nat) (x : Int32) : (wC K a d M).set 2 (a 2, .inl (K.2 0, 3, .inl (upd (M.1 2) k x))) = wC K a d (sI M 2 k x) := rfl
theorem vC_2 (K : Kx) (a d : Nat → Nat) (M : Mem) (f : Nat → Int32) : (wC K a d M).set 2 (a 2, .inl (K.2 0, 3, .inl f)) = wC K a d (va_up M.1 2 f, M.2) := rfl
theorem pC_3 (K : Kx) (a d : Nat → Nat) (M : Mem) : (wC K a d M)[3]? = some (a 3, .inl (K.2 0, 8, .inl (M.1 3))) := rfl
theorem uC_3 (K : Kx) (a d : Nat → Nat) (M : Mem) (k : Nat) (x : Int32) : (wC K a d M).set 3 (a 3, .inl (K.2 0, 8, .inl (upd (M.1 3) k x))) = wC K a d (sI M 3 k x) := rfl
theorem vC_3 (K : Kx) (a d : Nat → Nat) (M : Mem) (f : Nat → Int32) : (wC K a d M).set 3 (a 3, .inl (K.2 0, 8, .inl f)) = wC K a d (va_up M.1 3 f, M.2) := rfl
theorem pC_4 (K : Kx) (a d : Nat → Nat) (M : Mem) : (wC K a d M)[4]? = some (a 4, .inl (K.2 0, 640, .inl (M.1 4))) := rfl
theorem uC_4 (K : Kx) (a d : Nat → Nat) (M : Mem) (k : Nat) (x : Int32) : (wC K a d M).set 4 (a 4, .inl (K.2 0, 640, .inl (upd (M.1 4) k x))) = wC K a d (sI M 4 k x) := rfl
theorem vC_4 (K : Kx) (a d : Nat → Nat) (M : Mem) (f : Nat → Int32) : (wC K a d M).set 4 (a 4, .inl (K.2 0, 640, .inl f)) = wC K a d (va_up M.1 4 f, M.2) := rfl
theorem pC_5 (K : Kx) (a d : Nat → Nat) (M : Mem) : (wC K a d M)[5]? = some (a 5, .inr (2, [.ref (a 6), .ref (a 7), .ref (a 8), .ref (a 9), .ref (a 10), .ref (a 11), .ref (a 12), .ref (a 13), .ref (a 14), .ref (a 15), .int (M.1 106 0), .ref (a 16), .ref (a 17), .int (M.1 107 0), .ref (a 18), .ref (a 19), .ref (a 20)])) := rfl
theorem pC_6 (K : Kx) (a d : Nat → Nat) (M : Mem) : (wC K a d M)[6]? = some (a 6, .inl (K.2 0, 41, .inl (M.1 6))) := rfl
theorem uC_6 (K : Kx) (a d : Nat → Nat) (M : Mem) (k : Nat) (x : Int32) : (wC K a d M).set 6 (a 6, .inl (K.2 0, 41, .inl (upd (M.1 6) k x))) = wC K a d (sI M 6 k x) := rfl
theorem vC_6 (K : Kx) (a d : Nat → Nat) (M : Mem) (f : Nat → Int32) : (wC K a d M).set 6 (a 6, .inl (K.2 0, 41, .inl f)) = wC K a d (va_up M.1 6 f, M.2) := rfl
theorem pC_7 (K : Kx) (a d : Nat → Nat) (M : Mem) : (wC K a d M)[7]? = some (a 7, .inl (K.2 0, 41, .inl (M.1 7))) := rfl
theorem uC_7 (K : Kx) (a d : Nat → Nat) (M : Mem) (k : Nat) (x : Int32) : (wC K a d M).set 7 (a 7, .inl (K.2 0, 41, .inl (upd (M.1 7) k x))) = wC K a d (sI M 7 k x) := rfl
theorem vC_7 (K : Kx) (a d : Nat → Nat) (M : Mem) (f : Nat → Int32) : (wC K a d M).set 7 (a 7, .inl (K.2 0, 41, .inl f)) = wC K a d (va_up M.1 7 f, M.2) := rfl
theorem pC_8 (K : Kx) (a d : Nat → Nat) (M : Mem) : (wC K a d M)[8]? = some (a 8, .inl (K.2 0, 40, .inl (M.1 8))) := rfl
theorem uC_8 (K : Kx) (a d : Nat → Nat) (M : Mem) (k : Nat) (x : Int32) : (wC K a d M).set 8 (a 8, .inl (K.2 0, 40, .inl (upd (M.1 8) k x))) = wC K a d (sI M 8 k x) := rfl
theorem vC_8 (K : Kx) (a d : Nat → Nat) (M : Mem) (f : Nat → Int32) : (wC K a d M).set 8 (a 8, .inl (K.2 0, 40, .inl f)) = wC K a d (va_up M.1 8 f, M.2) := rfl
theorem pC_9 (K : Kx) (a d : Nat → Nat) (M : Mem) : (wC K a d M)[9]? = some (a 9, .inl (K.2 0, 40, .inl (M.1 9))) := rfl
theorem uC_9 (K : Kx) (a d : Nat → Nat) (M : Mem) (k : Nat) (x : Int32) : (wC K a d M).set 9 (a 9, .inl (K.2 0, 40, .inl (upd (M.1 9) k x))) = wC K a d (sI M 9 k x) := rfl
theorem vC_9 (K : Kx) (a d : Nat → Nat) (M : Mem) (f : Nat → Int32) : (wC K a d M).set 9 (a 9, .inl (K.2 0, 40, .inl f)) = wC K a d (va_up M.1 9 f, M.2) := rfl
theorem pC_10 (K : Kx) (a d : Nat → Nat) (M : Mem) : (wC K a d M)[10]? = some (a 10, .inl (K.2 0, 40, .inl (M.1 10))) := rfl
theorem uC_10 (K : Kx) (a d : Nat → Nat) (M : Mem) (k : Nat) (x : Int32) : (wC K a d M).set 10 (a 10, .inl (K.2 0, 40, .inl (upd (M.1 10) k x))) = wC K a d (sI M 10 k x) := rfl
theorem vC_10 (K : Kx) (a d : Nat → Nat) (M : Mem) (f : Nat → Int32) : (wC K a d M).set 10 (a 10, .inl (K.2 0, 40, .inl f)) = wC K a d (va_up M.1 10 f, M.2) := rfl
theorem pC_11 (K : Kx) (a d : Nat → Nat) (M : Mem) : (wC K a d M)[11]? = some (a 11, .inl (K.2 0, 40, .inl (M.1 11))) := rfl
theorem uC_11 (K : Kx) (a d : Nat → Nat) (M : Mem) (k : Nat) (x : Int32) : (wC K a d M).set 11 (a 11, .inl (K.2 0, 40, .inl (upd (M.1 11) k x))) = wC K a d (sI M 11 k x) := rfl
theorem vC_11 (K : Kx) (a d : Nat → Nat) (M : Mem) (f : Nat → Int32) : (wC K a d M).set 11 (a 11, .inl (K.2 0, 40, .inl f)) = wC K a d (va_up M.1 11 f, M.2) := rfl
theorem pC_12 (K : Kx) (a d : Nat → Nat) (M : Mem) : (wC K a d M)[12]? = some (a 12, .inl (K.2 0, 40, .inl (M.1 12))) := rfl
theorem uC_12 (K : Kx) (a d : Nat → Nat) (M : Mem) (k : Nat) (x : Int32) : (wC K a d M).set 12 (a 12, .inl (K.2 0, 40, .inl (upd (M.1 12) k x))) = wC K a d (sI M 12 k x) := rfl
theorem vC_12 (K : Kx) (a d : Nat → Nat) (M : Mem) (f : Nat → Int32) : (wC K a d M).set 12 (a 12, .inl (K.2 0, 40, .inl f)) = wC K a d (va_up M.1 12 f, M.2) := rfl
theorem pC_13 (K : Kx) (a d : Nat → Nat) (M : Mem) : (wC K a d M)[13]? = some (a 13, .inl (K.2 0, 40, .inl (M.1 13))) := rfl
theorem uC_13 (K : Kx) (a d : Nat → Nat) (M : Mem) (k : Nat) (x : Int32) : (wC K a d M).set 13 (a 13, .inl (K.2 0, 40, .inl (upd (M.1 13) k x))) = wC K a d (sI M 13 k x) := rfl
theorem vC_13 (K : Kx) (a d : Nat → Nat) (M : Mem) (f : Nat → Int32) : (wC K a d M).set 13 (a 13, .inl (K.2 0, 40, .inl f)) = wC K a d (va_up M.1 13 f, M.2) := rfl
theorem pC_14 (K : Kx) (a d : Nat → Nat) (M : Mem) : (wC K a d M)[14]? = some (a 14, .inl (K.2 0, 160, .inl (M.1 14))) := rfl
theorem uC_14 (K : Kx) (a d : Nat → Nat) (M : Mem) (k : Nat) (x : Int32) : (wC K a d M).set 14 (a 14, .inl (K.2 0, 160, .inl (upd (M.1 14) k x))) = wC K a d (sI M 14 k x) := rfl
theorem vC_14 (K : Kx) (a d : Nat → Nat) (M : Mem) (f : Nat → Int32) : (wC K a d M).set 14 (a 14, .inl (K.2 0, 160, .inl f)) = wC K a d (va_up M.1 14 f, M.2) := rfl
theorem pC_15 (K : Kx) (a d : Nat → Nat) (M : Mem) : (wC K a d M)[15]? = some (a 15, .inl (K.2 0, 200, .inl (M.1 15))) := rfl
theorem uC_15 (K : Kx) (a d : Nat → Nat) (M : Mem) (k : Nat) (x : Int32) : (wC K a d M).set 15 (a 15, .inl (K.2 0, 200, .inl (upd (M.1 15) k x))) = wC K a d (sI M 15 k x) := rfl
theorem vC_15 (K : Kx) (a d : Nat → Nat) (M : Mem) (f : Nat → Int32) : (wC K a d M).set 15 (a 15, .inl (K.2 0, 200, .inl f)) = wC K a d (va_up M.1 15 f, M.2) := rfl
theorem pC_16 (K : Kx) (a d : Nat → Nat) (M : Mem) : (wC K a d M)[16]? = some (a 16, .inl (K.2 0, 12, .inl (M.1 16))) := rfl
theorem uC_16 (K : Kx) (a d : Nat → Nat) (M : Mem) (k : Nat) (x : Int32) : (wC K a d M).set 16 (a 16, .inl (K.2 0, 12, .inl (upd (M.1 16) k x))) = wC K a d (sI M 16 k x) := rfl
theorem vC_16 (K : Kx) (a d : Nat → Nat) (M : Mem) (f : Nat → Int32) : (wC K a d M).set 16 (a 16, .inl (K.2 0, 12, .inl f)) = wC K a d (va_up M.1 16 f, M.2) := rfl
theorem pC_17 (K : Kx) (a d : Nat → Nat) (M : Mem) : (wC K a d M)[17]? = some (a 17, .inl (K.2 0, 40, .inl (M.1 17))) := rfl
theorem uC_17 (K : Kx) (a d : Nat → Nat) (M : Mem) (k : Nat) (x : Int32) : (wC K a d M).set 17 (a 17, .inl (K.2 0, 40, .inl (upd (M.1 17) k x))) = wC K a d (sI M 17 k x) := rfl
theorem vC_17 (K : Kx) (a d : Nat → Nat) (M : Mem) (f : Nat → Int32) : (wC K a d M).set 17 (a 17, .inl (K.2 0, 40, .inl f)) = wC K a d (va_up M.1 17 f, M.2) := rfl
theorem pC_18 (K : Kx) (a d : Nat → Nat) (M : Mem) : (wC K a d M)[18]? = some (a 18, .inl (K.2 0, 36, .inl (M.1 18))) := rfl
theorem uC_18 (K : Kx) (a d : Nat → Nat) (M : Mem) (k : Nat) (x : Int32) : (wC K a d M).set 18 (a 18, .inl (K.2 0, 36, .inl (upd (M.1 18) k x))) = wC K a d (sI M 18 k x) := rfl
theorem vC_18 (K : Kx) (a d : Nat → Nat) (M : Mem) (f : Nat → Int32) : (wC K a d M).set 18 (a 18, .inl (K.2 0, 36, .inl f)) = wC K a d (va_up M.1 18 f, M.2) := rfl
theorem pC_19 (K : Kx) (a d : Nat → Nat) (M : Mem) : (wC K a d M)[19]? = some (a 19, .inl (K.2 0, 36, .inl (M.1 19))) := rfl
theorem uC_19 (K : Kx) (a d : Nat → Nat) (M : Mem) (k : Nat) (x : Int32) : (wC K a d M).set 19 (a 19, .inl (K.2 0, 36, .inl (upd (M.1 19) k x))) = wC K a d (sI M 19 k x) := rfl
theorem vC_19 (K : Kx) (a d : Nat → Nat) (M : Mem) (f : Nat → Int32) : (wC K a d M).set 19 (a 19, .inl (K.2 0, 36, .inl f)) = wC K a d (va_up M.1 19 f, M.2) := rfl
theorem pC_20 (K : Kx) (a d : Nat → Nat) (M : Mem) : (wC K a d M)[20]? = some (a 20, .inl (K.2 0, 36, .inl (M.1 20))) := rfl
theorem uC_20 (K : Kx) (a d : Nat → Nat) (M : Mem) (k : Nat) (x : Int32) : (wC K a d M).set 20 (a 20, .inl (K.2 0, 36, .inl (upd (M.1 20) k x))) = wC K a d (sI M 20 k x) := rfl
theorem vC_20 (K : Kx) (a d : Nat → Nat) (M : Mem) (f : Nat → Int32) : (wC K a d M).set 20 (a 20, .inl (K.2 0, 36, .inl f)) = wC K a d (va_up M.1 20 f, M.2) := rfl
theorem pC_21 (K : Kx) (a d : Nat → Nat) (M : Mem) : (wC K a d M)[21]? = some (a 21, .inr (4, [.ref (a 22), .ref (a 23), .ref (a 24)])) := rfl
theorem pC_22 (K : Kx) (a d : Nat → Nat) (M : Mem) : (wC K a d M)[22]? = some (a 22, .inl (K.2 0, 40, .inl (M.1 22))) := rfl
theorem uC_22 (K : Kx) (a d : Nat → Nat) (M : Mem) (k : Nat) (x : Int32) : (wC K a d M).set 22 (a 22, .inl (K.2 0, 40, .inl (upd (M.1 22) k x))) = wC K a d (sI M 22 k x) := rfl
theorem vC_22 (K : Kx) (a d : Nat → Nat) (M : Mem) (f : Nat → Int32) : (wC K a d M).set 22 (a 22, .inl (K.2 0, 40, .inl f)) = wC K a d (va_up M.1 22 f, M.2) := rfl
theorem pC_23 (K : Kx) (a d : Nat → Nat) (M : Mem) : (wC K a d M)[23]? = some (a 23, .inl (K.2 0, 40, .inl (M.1 23))) := rfl
theorem uC_23 (K : Kx) (a d : Nat → Nat) (M : Mem) (k : Nat) (x : Int32) : (wC K a d M).set 23 (a 23, .inl (K.2 0, 40, .inl (upd (M.1 23) k x))) = wC K a d (sI M 23 k x) := rfl
theorem vC_23 (K : Kx) (a d : Nat → Nat) (M : Mem) (f : Nat → Int32) : (wC K a d M).set 23 (a 23, .inl (K.2 0, 40, .inl f)) = wC K a d (va_up M.1 23 f, M.2) := rfl
theorem pC_24 (K : Kx) (a d : Nat → Nat) (M : Mem) : (wC K a d M)[24]? = some (a 24, .inl (K.2 2, 480, .inl (M.1 24))) := rfl
theorem uC_24 (K : Kx) (a d : Nat → Nat) (M : Mem) (k : Nat) (x : Int32) : (wC K a d M).set 24 (a 24, .inl (K.2 2, 480, .inl (upd (M.1 24) k x))) = wC K a d (sI M 24 k x) := rfl
theorem vC_24 (K : Kx) (a d : Nat → Nat) (M : Mem) (f : Nat → Int32) : (wC K a d M).set 24 (a 24, .inl (K.2 2, 480, .inl f)) = wC K a d (va_up M.1 24 f, M.2) := rfl
theorem pC_25 (K : Kx) (a d : Nat → Nat) (M : Mem) : (wC K a d M)[25]? = some (a 25, .inl (K.2 3, 8, .inr (.inr (.inr (.inr (fun k => (M.2.2.1 25 k).map (fun i => d (6 * i)))))))) := rfl
theorem pC_26 (K : Kx) (a d : Nat → Nat) (M : Mem) : (wC K a d M)[26]? = some (a 26, .inr (3, [.ref (a 5), .ref (a 27), .ref (a 30), .ref (a 33), .int (M.1 108 0), .int (M.1 109 0)])) := rfl
theorem pC_27 (K : Kx) (a d : Nat → Nat) (M : Mem) : (wC K a d M)[27]? = some (a 27, .inr (7, [.ref (a 28), .ref (a 29)])) := rfl
theorem pC_28 (K : Kx) (a d : Nat → Nat) (M : Mem) : (wC K a d M)[28]? = some (a 28, .inl (K.2 0, 1344, .inl (M.1 28))) := rfl
theorem uC_28 (K : Kx) (a d : Nat → Nat) (M : Mem) (k : Nat) (x : Int32) : (wC K a d M).set 28 (a 28, .inl (K.2 0, 1344, .inl (upd (M.1 28) k x))) = wC K a d (sI M 28 k x) := rfl
theorem vC_28 (K : Kx) (a d : Nat → Nat) (M : Mem) (f : Nat → Int32) : (wC K a d M).set 28 (a 28, .inl (K.2 0, 1344, .inl f)) = wC K a d (va_up M.1 28 f, M.2) := rfl
theorem pC_29 (K : Kx) (a d : Nat → Nat) (M : Mem) : (wC K a d M)[29]? = some (a 29, .inl (K.2 0, 12, .inl (M.1 29))) := rfl
theorem uC_29 (K : Kx) (a d : Nat → Nat) (M : Mem) (k : Nat) (x : Int32) : (wC K a d M).set 29 (a 29, .inl (K.2 0, 12, .inl (upd (M.1 29) k x))) = wC K a d (sI M 29 k x) := rfl
theorem vC_29 (K : Kx) (a d : Nat → Nat) (M : Mem) (f : Nat → Int32) : (wC K a d M).set 29 (a 29, .inl (K.2 0, 12, .inl f)) = wC K a d (va_up M.1 29 f, M.2) := rfl
theorem pC_30 (K : Kx) (a d : Nat → Nat) (M : Mem) : (wC K a d M)[30]? = some (a 30, .inr (7, [.ref (a 31), .ref (a 32)])) := rfl
theorem pC_31 (K : Kx) (a d : Nat → Nat) (M : Mem) : (wC K a d M)[31]? = some (a 31, .inl (K.2 0, 1344, .inl (M.1 31))) := rfl
theorem uC_31 (K : Kx) (a d : Nat → Nat) (M : Mem) (k : Nat) (x : Int32) : (wC K a d M).set 31 (a 31, .inl (K.2 0, 1344, .inl (upd (M.1 31) k x))) = wC K a d (sI M 31 k x) := rfl
theorem vC_31 (K : Kx) (a d : Nat → Nat) (M : Mem) (f : Nat → Int32) : (wC K a d M).set 31 (a 31, .inl (K.2 0, 1344, .inl f)) = wC K a d (va_up M.1 31 f, M.2) := rfl
theorem pC_32 (K : Kx) (a d : Nat → Nat) (M : Mem) : (wC K a d M)[32]? = some (a 32, .inl (K.2 0, 12, .inl (M.1 32))) := rfl
theorem uC_32 (K : Kx) (a d : Nat → Nat) (M : Mem) (k : Nat) (x : Int32) : (wC K a d M).set 32 (a 32, .inl (K.2 0, 12, .inl (upd (M.1 32) k x))) = wC K a d (sI M 32 k x) := rfl
theorem vC_32 (K : Kx) (a d : Nat → Nat) (M : Mem) (f : Nat → Int32) : (wC K a d M).set 32 (a 32, .inl (K.2 0, 12, .inl f)) = wC K a d (va_up M.1 32 f, M.2) := rfl
theorem pC_33 (K : Kx) (a d : Nat → Nat) (M : Mem) : (wC K a d M)[33]? = some (a 33, .inl (K.2 4, 20, .inr (.inr (.inr (.inr (fun k => (M.2.2.1 33 k).map (fun i => d (6 * i + 3)))))))) := rfl
theorem pC_34 (K : Kx) (a d : Nat → Nat) (M : Mem) : (wC K a d M)[34]? = some (a 34, .inr (0, [.ref (a 1), .ref (a 5), .ref (a 35), .ref (a 36), .ref (a 37), .int (M.1 110 0), .int (M.1 111 0), .int (bI (zb (M.1 112 0))), .int (bI (zb (M.1 113 0)))])) := rfl
theorem pC_35 (K : Kx) (a d : Nat → Nat) (M : Mem) : (wC K a d M)[35]? = some (a 35, .inl (K.2 0, 400, .inl (M.1 35))) := rfl
theorem uC_35 (K : Kx) (a d : Nat → Nat) (M : Mem) (k : Nat) (x : Int32) : (wC K a d M).set 35 (a 35, .inl (K.2 0, 400, .inl (upd (M.1 35) k x))) = wC K a d (sI M 35 k x) := rfl
theorem vC_35 (K : Kx) (a d : Nat → Nat) (M : Mem) (f : Nat → Int32) : (wC K a d M).set 35 (a 35, .inl (K.2 0, 400, .inl f)) = wC K a d (va_up M.1 35 f, M.2) := rfl
theorem pC_36 (K : Kx) (a d : Nat → Nat) (M : Mem) : (wC K a d M)[36]? = some (a 36, .inl (K.2 1, 1600, .inr (.inl (M.2.1 36)))) := rfl
theorem uC_36 (K : Kx) (a d : Nat → Nat) (M : Mem) (k : Nat) (x : Int64) : (wC K a d M).set 36 (a 36, .inl (K.2 1, 1600, .inr (.inl (vp_updL (M.2.1 36) k x)))) = wC K a d (sL M 36 k x) := rfl
theorem vC_36 (K : Kx) (a d : Nat → Nat) (M : Mem) (f : Nat → Int64) : (wC K a d M).set 36 (a 36, .inl (K.2 1, 1600, .inr (.inl f))) = wC K a d (M.1, va_up M.2.1 36 f, M.2.2) := rfl
theorem pC_37 (K : Kx) (a d : Nat → Nat) (M : Mem) : (wC K a d M)[37]? = some (a 37, .inl (K.2 1, 4, .inr (.inl (M.2.1 37)))) := rfl
theorem uC_37 (K : Kx) (a d : Nat → Nat) (M : Mem) (k : Nat) (x : Int64) : (wC K a d M).set 37 (a 37, .inl (K.2 1, 4, .inr (.inl (vp_updL (M.2.1 37) k x)))) = wC K a d (sL M 37 k x) := rfl
theorem vC_37 (K : Kx) (a d : Nat → Nat) (M : Mem) (f : Nat → Int64) : (wC K a d M).set 37 (a 37, .inl (K.2 1, 4, .inr (.inl f))) = wC K a d (M.1, va_up M.2.1 37 f, M.2.2) := rfl
theorem pC_38 (K : Kx) (a d : Nat → Nat) (M : Mem) : (wC K a d M)[38]? = some (a 38, .inr (9, [.ref (a 1), .ref (a 5), .ref (a 34), .ref (a 39), .ref (a 40), .ref (a 41), .int (M.1 114 0), .ref (a 42), .int (bI (zb (M.1 115 0)))])) := rfl
theorem pC_39 (K : Kx) (a d : Nat → Nat) (M : Mem) : (wC K a d M)[39]? = some (a 39, .inl (K.2 1, 1200, .inr (.inl (M.2.1 39)))) := rfl
theorem uC_39 (K : Kx) (a d : Nat → Nat) (M : Mem) (k : Nat) (x : Int64) : (wC K a d M).set 39 (a 39, .inl (K.2 1, 1200, .inr (.inl (vp_updL (M.2.1 39) k x)))) = wC K a d (sL M 39 k x) := rfl
theorem vC_39 (K : Kx) (a d : Nat → Nat) (M : Mem) (f : Nat → Int64) : (wC K a d M).set 39 (a 39, .inl (K.2 1, 1200, .inr (.inl f))) = wC K a d (M.1, va_up M.2.1 39 f, M.2.2) := rfl
theorem pC_40 (K : Kx) (a d : Nat → Nat) (M : Mem) : (wC K a d M)[40]? = some (a 40, .inl (K.2 1, 1200, .inr (.inl (M.2.1 40)))) := rfl
theorem uC_40 (K : Kx) (a d : Nat → Nat) (M : Mem) (k : Nat) (x : Int64) : (wC K a d M).set 40 (a 40, .inl (K.2 1, 1200, .inr (.inl (vp_updL (M.2.1 40) k x)))) = wC K a d (sL M 40 k x) := rfl
theorem vC_40 (K : Kx) (a d : Nat → Nat) (M : Mem) (f : Nat → Int64) : (wC K a d M).set 40 (a 40, .inl (K.2 1, 1200, .inr (.inl f))) = wC K a d (M.1, va_up M.2.1 40 f, M.2.2) := rfl
theorem pC_41 (K : Kx) (a d : Nat → Nat) (M : Mem) : (wC K a d M)[41]? = some (a 41, .inl (K.2 0, 1200, .inl (M.1 41))) := rfl
theorem uC_41 (K : Kx) (a d : Nat → Nat) (M : Mem) (k : Nat) (x : Int32) : (wC K a d M).set 41 (a 41, .inl (K.2 0, 1200, .inl (upd (M.1 41) k x))) = wC K a d (sI M 41 k x) := rfl
theorem vC_41 (K : Kx) (a d : Nat → Nat) (M : Mem) (f : Nat → Int32) : (wC K a d M).set 41 (a 41, .inl (K.2 0, 1200, .inl f)) = wC K a d (va_up M.1 41 f, M.2) := rfl
theorem pC_42 (K : Kx) (a d : Nat → Nat) (M : Mem) : (wC K a d M)[42]? = some (a 42, .inl (K.2 0, 2048, .inl (M.1 42))) := rfl
theorem uC_42 (K : Kx) (a d : Nat → Nat) (M : Mem) (k : Nat) (x : Int32) : (wC K a d M).set 42 (a 42, .inl (K.2 0, 2048, .inl (upd (M.1 42) k x))) = wC K a d (sI M 42 k x) := rfl
theorem vC_42 (K : Kx) (a d : Nat → Nat) (M : Mem) (f : Nat → Int32) : (wC K a d M).set 42 (a 42, .inl (K.2 0, 2048, .inl f)) = wC K a d (va_up M.1 42 f, M.2) := rfl
theorem pC_43 (K : Kx) (a d : Nat → Nat) (M : Mem) : (wC K a d M)[43]? = some (a 43, .inr (1, [.ref (a 5), .ref (a 34), .ref (a 38), .ref (a 44), .ref (a 45), .ref (a 46), .ref (a 47), .ref (a 48), .ref (a 49), .ref (a 50), .ref (a 51), .ref (a 52), .ref (a 53), .ref (a 54), .int (bI (zb (M.1 116 0)))])) := rfl
theorem pC_44 (K : Kx) (a d : Nat → Nat) (M : Mem) : (wC K a d M)[44]? = some (a 44, .inl (K.2 0, 432, .inl (M.1 44))) := rfl
theorem uC_44 (K : Kx) (a d : Nat → Nat) (M : Mem) (k : Nat) (x : Int32) : (wC K a d M).set 44 (a 44, .inl (K.2 0, 432, .inl (upd (M.1 44) k x))) = wC K a d (sI M 44 k x) := rfl
theorem vC_44 (K : Kx) (a d : Nat → Nat) (M : Mem) (f : Nat → Int32) : (wC K a d M).set 44 (a 44, .inl (K.2 0, 432, .inl f)) = wC K a d (va_up M.1 44 f, M.2) := rfl
theorem pC_45 (K : Kx) (a d : Nat → Nat) (M : Mem) : (wC K a d M)[45]? = some (a 45, .inl (K.2 0, 5, .inl (M.1 45))) := rfl
theorem uC_45 (K : Kx) (a d : Nat → Nat) (M : Mem) (k : Nat) (x : Int32) : (wC K a d M).set 45 (a 45, .inl (K.2 0, 5, .inl (upd (M.1 45) k x))) = wC K a d (sI M 45 k x) := rfl
theorem vC_45 (K : Kx) (a d : Nat → Nat) (M : Mem) (f : Nat → Int32) : (wC K a d M).set 45 (a 45, .inl (K.2 0, 5, .inl f)) = wC K a d (va_up M.1 45 f, M.2) := rfl
theorem pC_46 (K : Kx) (a d : Nat → Nat) (M : Mem) : (wC K a d M)[46]? = some (a 46, .inl (K.2 0, 144, .inl (M.1 46))) := rfl
theorem uC_46 (K : Kx) (a d : Nat → Nat) (M : Mem) (k : Nat) (x : Int32) : (wC K a d M).set 46 (a 46, .inl (K.2 0, 144, .inl (upd (M.1 46) k x))) = wC K a d (sI M 46 k x) := rfl
theorem vC_46 (K : Kx) (a d : Nat → Nat) (M : Mem) (f : Nat → Int32) : (wC K a d M).set 46 (a 46, .inl (K.2 0, 144, .inl f)) = wC K a d (va_up M.1 46 f, M.2) := rfl
theorem pC_47 (K : Kx) (a d : Nat → Nat) (M : Mem) : (wC K a d M)[47]? = some (a 47, .inl (K.2 0, 720, .inl (M.1 47))) := rfl
theorem uC_47 (K : Kx) (a d : Nat → Nat) (M : Mem) (k : Nat) (x : Int32) : (wC K a d M).set 47 (a 47, .inl (K.2 0, 720, .inl (upd (M.1 47) k x))) = wC K a d (sI M 47 k x) := rfl
theorem vC_47 (K : Kx) (a d : Nat → Nat) (M : Mem) (f : Nat → Int32) : (wC K a d M).set 47 (a 47, .inl (K.2 0, 720, .inl f)) = wC K a d (va_up M.1 47 f, M.2) := rfl
theorem pC_48 (K : Kx) (a d : Nat → Nat) (M : Mem) : (wC K a d M)[48]? = some (a 48, .inl (K.2 0, 144, .inl (M.1 48))) := rfl
theorem uC_48 (K : Kx) (a d : Nat → Nat) (M : Mem) (k : Nat) (x : Int32) : (wC K a d M).set 48 (a 48, .inl (K.2 0, 144, .inl (upd (M.1 48) k x))) = wC K a d (sI M 48 k x) := rfl
theorem vC_48 (K : Kx) (a d : Nat → Nat) (M : Mem) (f : Nat → Int32) : (wC K a d M).set 48 (a 48, .inl (K.2 0, 144, .inl f)) = wC K a d (va_up M.1 48 f, M.2) := rfl
theorem pC_49 (K : Kx) (a d : Nat → Nat) (M : Mem) : (wC K a d M)[49]? = some (a 49, .inl (K.2 1, 576, .inr (.inl (M.2.1 49)))) := rfl
theorem uC_49 (K : Kx) (a d : Nat → Nat) (M : Mem) (k : Nat) (x : Int64) : (wC K a d M).set 49 (a 49, .inl (K.2 1, 576, .inr (.inl (vp_updL (M.2.1 49) k x)))) = wC K a d (sL M 49 k x) := rfl
theorem vC_49 (K : Kx) (a d : Nat → Nat) (M : Mem) (f : Nat → Int64) : (wC K a d M).set 49 (a 49, .inl (K.2 1, 576, .inr (.inl f))) = wC K a d (M.1, va_up M.2.1 49 f, M.2.2) := rfl
theorem pC_50 (K : Kx) (a d : Nat → Nat) (M : Mem) : (wC K a d M)[50]? = some (a 50, .inl (K.2 1, 576, .inr (.inl (M.2.1 50)))) := rfl
theorem uC_50 (K : Kx) (a d : Nat → Nat) (M : Mem) (k : Nat) (x : Int64) : (wC K a d M).set 50 (a 50, .inl (K.2 1, 576, .inr (.inl (vp_updL (M.2.1 50) k x)))) = wC K a d (sL M 50 k x) := rfl
theorem vC_50 (K : Kx) (a d : Nat → Nat) (M : Mem) (f : Nat → Int64) : (wC K a d M).set 50 (a 50, .inl (K.2 1, 576, .inr (.inl f))) = wC K a d (M.1, va_up M.2.1 50 f, M.2.2) := rfl
theorem pC_51 (K : Kx) (a d : Nat → Nat) (M : Mem) : (wC K a d M)[51]? = some (a 51, .inl (K.2 0, 1200, .inl (M.1 51))) := rfl
theorem uC_51 (K : Kx) (a d : Nat → Nat) (M : Mem) (k : Nat) (x : Int32) : (wC K a d M).set 51 (a 51, .inl (K.2 0, 1200, .inl (upd (M.1 51) k x))) = wC K a d (sI M 51 k x) := rfl
theorem vC_51 (K : Kx) (a d : Nat → Nat) (M : Mem) (f : Nat → Int32) : (wC K a d M).set 51 (a 51, .inl (K.2 0, 1200, .inl f)) = wC K a d (va_up M.1 51 f, M.2) := rfl
theorem pC_52 (K : Kx) (a d : Nat → Nat) (M : Mem) : (wC K a d M)[52]? = some (a 52, .inl (K.2 0, 400, .inl (M.1 52))) := rfl
theorem uC_52 (K : Kx) (a d : Nat → Nat) (M : Mem) (k : Nat) (x : Int32) : (wC K a d M).set 52 (a 52, .inl (K.2 0, 400, .inl (upd (M.1 52) k x))) = wC K a d (sI M 52 k x) := rfl
theorem vC_52 (K : Kx) (a d : Nat → Nat) (M : Mem) (f : Nat → Int32) : (wC K a d M).set 52 (a 52, .inl (K.2 0, 400, .inl f)) = wC K a d (va_up M.1 52 f, M.2) := rfl
theorem pC_53 (K : Kx) (a d : Nat → Nat) (M : Mem) : (wC K a d M)[53]? = some (a 53, .inl (K.2 0, 1200, .inl (M.1 53))) := rfl
theorem uC_53 (K : Kx) (a d : Nat → Nat) (M : Mem) (k : Nat) (x : Int32) : (wC K a d M).set 53 (a 53, .inl (K.2 0, 1200, .inl (upd (M.1 53) k x))) = wC K a d (sI M 53 k x) := rfl
theorem vC_53 (K : Kx) (a d : Nat → Nat) (M : Mem) (f : Nat → Int32) : (wC K a d M).set 53 (a 53, .inl (K.2 0, 1200, .inl f)) = wC K a d (va_up M.1 53 f, M.2) := rfl
theorem pC_54 (K : Kx) (a d : Nat → Nat) (M : Mem) : (wC K a d M)[54]? = some (a 54, .inl (K.2 0, 800, .inl (M.1 54))) := rfl
theorem uC_54 (K : Kx) (a d : Nat → Nat) (M : Mem) (k : Nat) (x : Int32) : (wC K a d M).set 54 (a 54, .inl (K.2 0, 800, .inl (upd (M.1 54) k x))) = wC K a d (sI M 54 k x) := rfl
theorem vC_54 (K : Kx) (a d : Nat → Nat) (M : Mem) (f : Nat → Int32) : (wC K a d M).set 54 (a 54, .inl (K.2 0, 800, .inl f)) = wC K a d (va_up M.1 54 f, M.2) := rfl
theorem pC_55 (K : Kx) (a d : Nat → Nat) (M : Mem) : (wC K a d M)[55]? = some (a 55, .inr (10, [.ref (a 26), .ref (a 34), .ref (a 38), .ref (a 56), .ref (a 57), .ref (a 58), .ref (a 59), .int (bI (zb (M.1 117 0))), .ref (a 60), .ref (a 61), .int (M.1 118 0), .int (M.1 119 0), .int (M.1 120 0), .int (bI (zb (M.1 121 0))), .ref (a 62), .int (M.1 122 0), .int (bI (zb (M.1 123 0)))])) := rfl
theorem pC_56 (K : Kx) (a d : Nat → Nat) (M : Mem) : (wC K a d M)[56]? = some (a 56, .inl (K.2 1, 6400, .inr (.inl (M.2.1 56)))) := rfl
theorem uC_56 (K : Kx) (a d : Nat → Nat) (M : Mem) (k : Nat) (x : Int64) : (wC K a d M).set 56 (a 56, .inl (K.2 1, 6400, .inr (.inl (vp_updL (M.2.1 56) k x)))) = wC K a d (sL M 56 k x) := rfl
theorem vC_56 (K : Kx) (a d : Nat → Nat) (M : Mem) (f : Nat → Int64) : (wC K a d M).set 56 (a 56, .inl (K.2 1, 6400, .inr (.inl f))) = wC K a d (M.1, va_up M.2.1 56 f, M.2.2) := rfl
theorem pC_57 (K : Kx) (a d : Nat → Nat) (M : Mem) : (wC K a d M)[57]? = some (a 57, .inl (K.2 0, 400, .inl (M.1 57))) := rfl
theorem uC_57 (K : Kx) (a d : Nat → Nat) (M : Mem) (k : Nat) (x : Int32) : (wC K a d M).set 57 (a 57, .inl (K.2 0, 400, .inl (upd (M.1 57) k x))) = wC K a d (sI M 57 k x) := rfl
theorem vC_57 (K : Kx) (a d : Nat → Nat) (M : Mem) (f : Nat → Int32) : (wC K a d M).set 57 (a 57, .inl (K.2 0, 400, .inl f)) = wC K a d (va_up M.1 57 f, M.2) := rfl
theorem pC_58 (K : Kx) (a d : Nat → Nat) (M : Mem) : (wC K a d M)[58]? = some (a 58, .inl (K.2 0, 400, .inl (M.1 58))) := rfl
theorem uC_58 (K : Kx) (a d : Nat → Nat) (M : Mem) (k : Nat) (x : Int32) : (wC K a d M).set 58 (a 58, .inl (K.2 0, 400, .inl (upd (M.1 58) k x))) = wC K a d (sI M 58 k x) := rfl
theorem vC_58 (K : Kx) (a d : Nat → Nat) (M : Mem) (f : Nat → Int32) : (wC K a d M).set 58 (a 58, .inl (K.2 0, 400, .inl f)) = wC K a d (va_up M.1 58 f, M.2) := rfl
theorem pC_59 (K : Kx) (a d : Nat → Nat) (M : Mem) : (wC K a d M)[59]? = some (a 59, .inl (K.2 0, 400, .inl (M.1 59))) := rfl
theorem uC_59 (K : Kx) (a d : Nat → Nat) (M : Mem) (k : Nat) (x : Int32) : (wC K a d M).set 59 (a 59, .inl (K.2 0, 400, .inl (upd (M.1 59) k x))) = wC K a d (sI M 59 k x) := rfl
theorem vC_59 (K : Kx) (a d : Nat → Nat) (M : Mem) (f : Nat → Int32) : (wC K a d M).set 59 (a 59, .inl (K.2 0, 400, .inl f)) = wC K a d (va_up M.1 59 f, M.2) := rfl
theorem pC_60 (K : Kx) (a d : Nat → Nat) (M : Mem) : (wC K a d M)[60]? = some (a 60, .inl (K.2 0, 1200, .inl (M.1 60))) := rfl
theorem uC_60 (K : Kx) (a d : Nat → Nat) (M : Mem) (k : Nat) (x : Int32) : (wC K a d M).set 60 (a 60, .inl (K.2 0, 1200, .inl (upd (M.1 60) k x))) = wC K a d (sI M 60 k x) := rfl
theorem vC_60 (K : Kx) (a d : Nat → Nat) (M : Mem) (f : Nat → Int32) : (wC K a d M).set 60 (a 60, .inl (K.2 0, 1200, .inl f)) = wC K a d (va_up M.1 60 f, M.2) := rfl
theorem pC_61 (K : Kx) (a d : Nat → Nat) (M : Mem) : (wC K a d M)[61]? = some (a 61, .inl (K.2 0, 1200, .inl (M.1 61))) := rfl
theorem uC_61 (K : Kx) (a d : Nat → Nat) (M : Mem) (k : Nat) (x : Int32) : (wC K a d M).set 61 (a 61, .inl (K.2 0, 1200, .inl (upd (M.1 61) k x))) = wC K a d (sI M 61 k x) := rfl
theorem vC_61 (K : Kx) (a d : Nat → Nat) (M : Mem) (f : Nat → Int32) : (wC K a d M).set 61 (a 61, .inl (K.2 0, 1200, .inl f)) = wC K a d (va_up M.1 61 f, M.2) := rfl
theorem pC_62 (K : Kx) (a d : Nat → Nat) (M : Mem) : (wC K a d M)[62]? = some (a 62, .inl (K.2 0, 401, .inl (M.1 62))) := rfl
theorem uC_62 (K : Kx) (a d : Nat → Nat) (M : Mem) (k : Nat) (x : Int32) : (wC K a d M).set 62 (a 62, .inl (K.2 0, 401, .inl (upd (M.1 62) k x))) = wC K a d (sI M 62 k x) := rfl
theorem vC_62 (K : Kx) (a d : Nat → Nat) (M : Mem) (f : Nat → Int32) : (wC K a d M).set 62 (a 62, .inl (K.2 0, 401, .inl f)) = wC K a d (va_up M.1 62 f, M.2) := rfl
theorem pC_63 (K : Kx) (a d : Nat → Nat) (M : Mem) : (wC K a d M)[63]? = some (a 63, .inr (6, [.ref (a 64), .ref (a 65), .ref (a 66), .int (M.1 124 0), .int (M.1 125 0)])) := rfl
theorem pC_64 (K : Kx) (a d : Nat → Nat) (M : Mem) : (wC K a d M)[64]? = some (a 64, .inl (K.2 0, 16, .inl (M.1 64))) := rfl
theorem uC_64 (K : Kx) (a d : Nat → Nat) (M : Mem) (k : Nat) (x : Int32) : (wC K a d M).set 64 (a 64, .inl (K.2 0, 16, .inl (upd (M.1 64) k x))) = wC K a d (sI M 64 k x) := rfl
theorem vC_64 (K : Kx) (a d : Nat → Nat) (M : Mem) (f : Nat → Int32) : (wC K a d M).set 64 (a 64, .inl (K.2 0, 16, .inl f)) = wC K a d (va_up M.1 64 f, M.2) := rfl
theorem pC_65 (K : Kx) (a d : Nat → Nat) (M : Mem) : (wC K a d M)[65]? = some (a 65, .inl (K.2 1, 16, .inr (.inl (M.2.1 65)))) := rfl
theorem uC_65 (K : Kx) (a d : Nat → Nat) (M : Mem) (k : Nat) (x : Int64) : (wC K a d M).set 65 (a 65, .inl (K.2 1, 16, .inr (.inl (vp_updL (M.2.1 65) k x)))) = wC K a d (sL M 65 k x) := rfl
theorem vC_65 (K : Kx) (a d : Nat → Nat) (M : Mem) (f : Nat → Int64) : (wC K a d M).set 65 (a 65, .inl (K.2 1, 16, .inr (.inl f))) = wC K a d (M.1, va_up M.2.1 65 f, M.2.2) := rfl
theorem pC_66 (K : Kx) (a d : Nat → Nat) (M : Mem) : (wC K a d M)[66]? = some (a 66, .inl (K.2 1, 16, .inr (.inl (M.2.1 66)))) := rfl
theorem uC_66 (K : Kx) (a d : Nat → Nat) (M : Mem) (k : Nat) (x : Int64) : (wC K a d M).set 66 (a 66, .inl (K.2 1, 16, .inr (.inl (vp_updL (M.2.1 66) k x)))) = wC K a d (sL M 66 k x) := rfl
theorem vC_66 (K : Kx) (a d : Nat → Nat) (M : Mem) (f : Nat → Int64) : (wC K a d M).set 66 (a 66, .inl (K.2 1, 16, .inr (.inl f))) = wC K a d (M.1, va_up M.2.1 66 f, M.2.2) := rfl
theorem pC_67 (K : Kx) (a d : Nat → Nat) (M : Mem) : (wC K a d M)[67]? = some (a 67, .inl (K.2 0, 6, .inl (M.1 67))) := rfl
theorem uC_67 (K : Kx) (a d : Nat → Nat) (M : Mem) (k : Nat) (x : Int32) : (wC K a d M).set 67 (a 67, .inl (K.2 0, 6, .inl (upd (M.1 67) k x))) = wC K a d (sI M 67 k x) := rfl
theorem vC_67 (K : Kx) (a d : Nat → Nat) (M : Mem) (f : Nat → Int32) : (wC K a d M).set 67 (a 67, .inl (K.2 0, 6, .inl f)) = wC K a d (va_up M.1 67 f, M.2) := rfl
theorem pC_68 (K : Kx) (a d : Nat → Nat) (M : Mem) : (wC K a d M)[68]? = some (a 68, .inl (K.2 1, 4, .inr (.inl (M.2.1 68)))) := rfl
theorem uC_68 (K : Kx) (a d : Nat → Nat) (M : Mem) (k : Nat) (x : Int64) : (wC K a d M).set 68 (a 68, .inl (K.2 1, 4, .inr (.inl (vp_updL (M.2.1 68) k x)))) = wC K a d (sL M 68 k x) := rfl
theorem vC_68 (K : Kx) (a d : Nat → Nat) (M : Mem) (f : Nat → Int64) : (wC K a d M).set 68 (a 68, .inl (K.2 1, 4, .inr (.inl f))) = wC K a d (M.1, va_up M.2.1 68 f, M.2.2) := rfl
theorem pM_0 (K : Kx) (a : Nat → Nat) (M : Mem) : (wM K a M)[0]? = some (a 0, .inr (12, [.int (M.1 100 0), .ref (a 1), .ref (a 2), .ref (a 3), .int (M.1 101 0), .ref (a 4), .ref (a 5), .int (M.1 102 0), .ref (a 6), .ref (a 7), .ref (a 8), .ref (a 9), .ref (a 10), .int (M.1 103 0), .ref (a 11), .ref (a 12), .ref (a 13), .ref (a 14), .ref (a 15), .ref (a 16), .ref (a 17), .ref (a 18), .int (M.1 104 0), .ref (a 19), .ref (a 20), .ref (a 21), .ref (a 22), .long (M.2.1 105 0), .int (M.1 106 0), .ref (a 23), .ref (a 24), .int (M.1 107 0), .int (bI (zb (M.1 108 0))), .ref (a 25), .ref (a 26), .ref (a 27), .ref (a 28), .ref (a 29), .ref (a 30), .ref (a 31), .int (M.1 109 0), .ref (a 32), .ref (a 33), .ref (a 34), .ref (a 35), .ref (a 36), .ref (a 37), .ref (a 38), .ref (a 39), .int (M.1 110 0), .int (M.1 111 0), .int (M.1 112 0), .ref (a 40), .long (M.2.1 113 0), .long (M.2.1 114 0), .ref (a 41), .ref (a 42), .ref (a 43), .int (M.1 115 0), .int (M.1 116 0), .ref (a 44)])) := rfl
theorem pM_1 (K : Kx) (a : Nat → Nat) (M : Mem) : (wM K a M)[1]? = some (a 1, .inl (K.2 0, 6, .inl (M.1 1))) := rfl
theorem uM_1 (K : Kx) (a : Nat → Nat) (M : Mem) (k : Nat) (x : Int32) : (wM K a M).set 1 (a 1, .inl (K.2 0, 6, .inl (upd (M.1 1) k x))) = wM K a (sI M 1 k x) := rfl
theorem vM_1 (K : Kx) (a : Nat → Nat) (M : Mem) (f : Nat → Int32) : (wM K a M).set 1 (a 1, .inl (K.2 0, 6, .inl f)) = wM K a (va_up M.1 1 f, M.2) := rfl
theorem pM_2 (K : Kx) (a : Nat → Nat) (M : Mem) : (wM K a M)[2]? = some (a 2, .inl (K.2 0, 3, .inl (M.1 2))) := rfl
theorem uM_2 (K : Kx) (a : Nat → Nat) (M : Mem) (k : Nat) (x : Int32) : (wM K a M).set 2 (a 2, .inl (K.2 0, 3, .inl (upd (M.1 2) k x))) = wM K a (sI M 2 k x) := rfl
theorem vM_2 (K : Kx) (a : Nat → Nat) (M : Mem) (f : Nat → Int32) : (wM K a M).set 2 (a 2, .inl (K.2 0, 3, .inl f)) = wM K a (va_up M.1 2 f, M.2) := rfl
theorem pM_3 (K : Kx) (a : Nat → Nat) (M : Mem) : (wM K a M)[3]? = some (a 3, .inl (K.2 0, 8, .inl (M.1 3))) := rfl
theorem uM_3 (K : Kx) (a : Nat → Nat) (M : Mem) (k : Nat) (x : Int32) : (wM K a M).set 3 (a 3, .inl (K.2 0, 8, .inl (upd (M.1 3) k x))) = wM K a (sI M 3 k x) := rfl
theorem vM_3 (K : Kx) (a : Nat → Nat) (M : Mem) (f : Nat → Int32) : (wM K a M).set 3 (a 3, .inl (K.2 0, 8, .inl f)) = wM K a (va_up M.1 3 f, M.2) := rfl
theorem pM_4 (K : Kx) (a : Nat → Nat) (M : Mem) : (wM K a M)[4]? = some (a 4, .inl (K.2 0, 640, .inl (M.1 4))) := rfl
theorem uM_4 (K : Kx) (a : Nat → Nat) (M : Mem) (k : Nat) (x : Int32) : (wM K a M).set 4 (a 4, .inl (K.2 0, 640, .inl (upd (M.1 4) k x))) = wM K a (sI M 4 k x) := rfl
theorem vM_4 (K : Kx) (a : Nat → Nat) (M : Mem) (f : Nat → Int32) : (wM K a M).set 4 (a 4, .inl (K.2 0, 640, .inl f)) = wM K a (va_up M.1 4 f, M.2) := rfl
theorem pM_5 (K : Kx) (a : Nat → Nat) (M : Mem) : (wM K a M)[5]? = some (a 5, .inl (K.2 1, 4, .inr (.inl (M.2.1 5)))) := rfl
theorem uM_5 (K : Kx) (a : Nat → Nat) (M : Mem) (k : Nat) (x : Int64) : (wM K a M).set 5 (a 5, .inl (K.2 1, 4, .inr (.inl (vp_updL (M.2.1 5) k x)))) = wM K a (sL M 5 k x) := rfl
theorem vM_5 (K : Kx) (a : Nat → Nat) (M : Mem) (f : Nat → Int64) : (wM K a M).set 5 (a 5, .inl (K.2 1, 4, .inr (.inl f))) = wM K a (M.1, va_up M.2.1 5 f, M.2.2) := rfl
theorem pM_6 (K : Kx) (a : Nat → Nat) (M : Mem) : (wM K a M)[6]? = some (a 6, .inl (K.2 0, 40, .inl (M.1 6))) := rfl
theorem uM_6 (K : Kx) (a : Nat → Nat) (M : Mem) (k : Nat) (x : Int32) : (wM K a M).set 6 (a 6, .inl (K.2 0, 40, .inl (upd (M.1 6) k x))) = wM K a (sI M 6 k x) := rfl
theorem vM_6 (K : Kx) (a : Nat → Nat) (M : Mem) (f : Nat → Int32) : (wM K a M).set 6 (a 6, .inl (K.2 0, 40, .inl f)) = wM K a (va_up M.1 6 f, M.2) := rfl
theorem pM_7 (K : Kx) (a : Nat → Nat) (M : Mem) : (wM K a M)[7]? = some (a 7, .inl (K.2 0, 40, .inl (M.1 7))) := rfl
theorem uM_7 (K : Kx) (a : Nat → Nat) (M : Mem) (k : Nat) (x : Int32) : (wM K a M).set 7 (a 7, .inl (K.2 0, 40, .inl (upd (M.1 7) k x))) = wM K a (sI M 7 k x) := rfl
theorem vM_7 (K : Kx) (a : Nat → Nat) (M : Mem) (f : Nat → Int32) : (wM K a M).set 7 (a 7, .inl (K.2 0, 40, .inl f)) = wM K a (va_up M.1 7 f, M.2) := rfl
theorem pM_8 (K : Kx) (a : Nat → Nat) (M : Mem) : (wM K a M)[8]? = some (a 8, .inl (K.2 0, 40, .inl (M.1 8))) := rfl
theorem uM_8 (K : Kx) (a : Nat → Nat) (M : Mem) (k : Nat) (x : Int32) : (wM K a M).set 8 (a 8, .inl (K.2 0, 40, .inl (upd (M.1 8) k x))) = wM K a (sI M 8 k x) := rfl
theorem vM_8 (K : Kx) (a : Nat → Nat) (M : Mem) (f : Nat → Int32) : (wM K a M).set 8 (a 8, .inl (K.2 0, 40, .inl f)) = wM K a (va_up M.1 8 f, M.2) := rfl
theorem pM_9 (K : Kx) (a : Nat → Nat) (M : Mem) : (wM K a M)[9]? = some (a 9, .inl (K.2 0, 40, .inl (M.1 9))) := rfl
theorem uM_9 (K : Kx) (a : Nat → Nat) (M : Mem) (k : Nat) (x : Int32) : (wM K a M).set 9 (a 9, .inl (K.2 0, 40, .inl (upd (M.1 9) k x))) = wM K a (sI M 9 k x) := rfl
theorem vM_9 (K : Kx) (a : Nat → Nat) (M : Mem) (f : Nat → Int32) : (wM K a M).set 9 (a 9, .inl (K.2 0, 40, .inl f)) = wM K a (va_up M.1 9 f, M.2) := rfl
theorem pM_10 (K : Kx) (a : Nat → Nat) (M : Mem) : (wM K a M)[10]? = some (a 10, .inl (K.2 0, 40, .inl (M.1 10))) := rfl
theorem uM_10 (K : Kx) (a : Nat → Nat) (M : Mem) (k : Nat) (x : Int32) : (wM K a M).set 10 (a 10, .inl (K.2 0, 40, .inl (upd (M.1 10) k x))) = wM K a (sI M 10 k x) := rfl
theorem vM_10 (K : Kx) (a : Nat → Nat) (M : Mem) (f : Nat → Int32) : (wM K a M).set 10 (a 10, .inl (K.2 0, 40, .inl f)) = wM K a (va_up M.1 10 f, M.2) := rfl
theorem pM_11 (K : Kx) (a : Nat → Nat) (M : Mem) : (wM K a M)[11]? = some (a 11, .inl (K.2 0, 120, .inl (M.1 11))) := rfl
theorem uM_11 (K : Kx) (a : Nat → Nat) (M : Mem) (k : Nat) (x : Int32) : (wM K a M).set 11 (a 11, .inl (K.2 0, 120, .inl (upd (M.1 11) k x))) = wM K a (sI M 11 k x) := rfl
theorem vM_11 (K : Kx) (a : Nat → Nat) (M : Mem) (f : Nat → Int32) : (wM K a M).set 11 (a 11, .inl (K.2 0, 120, .inl f)) = wM K a (va_up M.1 11 f, M.2) := rfl
theorem pM_12 (K : Kx) (a : Nat → Nat) (M : Mem) : (wM K a M)[12]? = some (a 12, .inl (K.2 0, 120, .inl (M.1 12))) := rfl
theorem uM_12 (K : Kx) (a : Nat → Nat) (M : Mem) (k : Nat) (x : Int32) : (wM K a M).set 12 (a 12, .inl (K.2 0, 120, .inl (upd (M.1 12) k x))) = wM K a (sI M 12 k x) := rfl
theorem vM_12 (K : Kx) (a : Nat → Nat) (M : Mem) (f : Nat → Int32) : (wM K a M).set 12 (a 12, .inl (K.2 0, 120, .inl f)) = wM K a (va_up M.1 12 f, M.2) := rfl
theorem pM_13 (K : Kx) (a : Nat → Nat) (M : Mem) : (wM K a M)[13]? = some (a 13, .inl (K.2 0, 120, .inl (M.1 13))) := rfl
theorem uM_13 (K : Kx) (a : Nat → Nat) (M : Mem) (k : Nat) (x : Int32) : (wM K a M).set 13 (a 13, .inl (K.2 0, 120, .inl (upd (M.1 13) k x))) = wM K a (sI M 13 k x) := rfl
theorem vM_13 (K : Kx) (a : Nat → Nat) (M : Mem) (f : Nat → Int32) : (wM K a M).set 13 (a 13, .inl (K.2 0, 120, .inl f)) = wM K a (va_up M.1 13 f, M.2) := rfl
theorem pM_14 (K : Kx) (a : Nat → Nat) (M : Mem) : (wM K a M)[14]? = some (a 14, .inl (K.2 0, 40, .inl (M.1 14))) := rfl
theorem uM_14 (K : Kx) (a : Nat → Nat) (M : Mem) (k : Nat) (x : Int32) : (wM K a M).set 14 (a 14, .inl (K.2 0, 40, .inl (upd (M.1 14) k x))) = wM K a (sI M 14 k x) := rfl
theorem vM_14 (K : Kx) (a : Nat → Nat) (M : Mem) (f : Nat → Int32) : (wM K a M).set 14 (a 14, .inl (K.2 0, 40, .inl f)) = wM K a (va_up M.1 14 f, M.2) := rfl
theorem pM_15 (K : Kx) (a : Nat → Nat) (M : Mem) : (wM K a M)[15]? = some (a 15, .inl (K.2 0, 40, .inl (M.1 15))) := rfl
theorem uM_15 (K : Kx) (a : Nat → Nat) (M : Mem) (k : Nat) (x : Int32) : (wM K a M).set 15 (a 15, .inl (K.2 0, 40, .inl (upd (M.1 15) k x))) = wM K a (sI M 15 k x) := rfl
theorem vM_15 (K : Kx) (a : Nat → Nat) (M : Mem) (f : Nat → Int32) : (wM K a M).set 15 (a 15, .inl (K.2 0, 40, .inl f)) = wM K a (va_up M.1 15 f, M.2) := rfl
theorem pM_16 (K : Kx) (a : Nat → Nat) (M : Mem) : (wM K a M)[16]? = some (a 16, .inl (K.2 0, 40, .inl (M.1 16))) := rfl
theorem uM_16 (K : Kx) (a : Nat → Nat) (M : Mem) (k : Nat) (x : Int32) : (wM K a M).set 16 (a 16, .inl (K.2 0, 40, .inl (upd (M.1 16) k x))) = wM K a (sI M 16 k x) := rfl
theorem vM_16 (K : Kx) (a : Nat → Nat) (M : Mem) (f : Nat → Int32) : (wM K a M).set 16 (a 16, .inl (K.2 0, 40, .inl f)) = wM K a (va_up M.1 16 f, M.2) := rfl
theorem pM_17 (K : Kx) (a : Nat → Nat) (M : Mem) : (wM K a M)[17]? = some (a 17, .inl (K.2 2, 480, .inl (M.1 17))) := rfl
theorem uM_17 (K : Kx) (a : Nat → Nat) (M : Mem) (k : Nat) (x : Int32) : (wM K a M).set 17 (a 17, .inl (K.2 2, 480, .inl (upd (M.1 17) k x))) = wM K a (sI M 17 k x) := rfl
theorem vM_17 (K : Kx) (a : Nat → Nat) (M : Mem) (f : Nat → Int32) : (wM K a M).set 17 (a 17, .inl (K.2 2, 480, .inl f)) = wM K a (va_up M.1 17 f, M.2) := rfl
theorem pM_18 (K : Kx) (a : Nat → Nat) (M : Mem) : (wM K a M)[18]? = some (a 18, .inl (K.2 2, 12, .inl (M.1 18))) := rfl
theorem uM_18 (K : Kx) (a : Nat → Nat) (M : Mem) (k : Nat) (x : Int32) : (wM K a M).set 18 (a 18, .inl (K.2 2, 12, .inl (upd (M.1 18) k x))) = wM K a (sI M 18 k x) := rfl
theorem vM_18 (K : Kx) (a : Nat → Nat) (M : Mem) (f : Nat → Int32) : (wM K a M).set 18 (a 18, .inl (K.2 2, 12, .inl f)) = wM K a (va_up M.1 18 f, M.2) := rfl
theorem pM_19 (K : Kx) (a : Nat → Nat) (M : Mem) : (wM K a M)[19]? = some (a 19, .inl (K.2 0, 8, .inl (M.1 19))) := rfl
theorem uM_19 (K : Kx) (a : Nat → Nat) (M : Mem) (k : Nat) (x : Int32) : (wM K a M).set 19 (a 19, .inl (K.2 0, 8, .inl (upd (M.1 19) k x))) = wM K a (sI M 19 k x) := rfl
theorem vM_19 (K : Kx) (a : Nat → Nat) (M : Mem) (f : Nat → Int32) : (wM K a M).set 19 (a 19, .inl (K.2 0, 8, .inl f)) = wM K a (va_up M.1 19 f, M.2) := rfl
theorem pM_20 (K : Kx) (a : Nat → Nat) (M : Mem) : (wM K a M)[20]? = some (a 20, .inl (K.2 0, 8, .inl (M.1 20))) := rfl
theorem uM_20 (K : Kx) (a : Nat → Nat) (M : Mem) (k : Nat) (x : Int32) : (wM K a M).set 20 (a 20, .inl (K.2 0, 8, .inl (upd (M.1 20) k x))) = wM K a (sI M 20 k x) := rfl
theorem vM_20 (K : Kx) (a : Nat → Nat) (M : Mem) (f : Nat → Int32) : (wM K a M).set 20 (a 20, .inl (K.2 0, 8, .inl f)) = wM K a (va_up M.1 20 f, M.2) := rfl
theorem pM_21 (K : Kx) (a : Nat → Nat) (M : Mem) : (wM K a M)[21]? = some (a 21, .inl (K.2 0, 160, .inl (M.1 21))) := rfl
theorem uM_21 (K : Kx) (a : Nat → Nat) (M : Mem) (k : Nat) (x : Int32) : (wM K a M).set 21 (a 21, .inl (K.2 0, 160, .inl (upd (M.1 21) k x))) = wM K a (sI M 21 k x) := rfl
theorem vM_21 (K : Kx) (a : Nat → Nat) (M : Mem) (f : Nat → Int32) : (wM K a M).set 21 (a 21, .inl (K.2 0, 160, .inl f)) = wM K a (va_up M.1 21 f, M.2) := rfl
theorem pM_22 (K : Kx) (a : Nat → Nat) (M : Mem) : (wM K a M)[22]? = some (a 22, .inl (K.2 1, 3200, .inr (.inl (M.2.1 22)))) := rfl
theorem uM_22 (K : Kx) (a : Nat → Nat) (M : Mem) (k : Nat) (x : Int64) : (wM K a M).set 22 (a 22, .inl (K.2 1, 3200, .inr (.inl (vp_updL (M.2.1 22) k x)))) = wM K a (sL M 22 k x) := rfl
theorem vM_22 (K : Kx) (a : Nat → Nat) (M : Mem) (f : Nat → Int64) : (wM K a M).set 22 (a 22, .inl (K.2 1, 3200, .inr (.inl f))) = wM K a (M.1, va_up M.2.1 22 f, M.2.2) := rfl
theorem pM_23 (K : Kx) (a : Nat → Nat) (M : Mem) : (wM K a M)[23]? = some (a 23, .inl (K.2 0, 401, .inl (M.1 23))) := rfl
theorem uM_23 (K : Kx) (a : Nat → Nat) (M : Mem) (k : Nat) (x : Int32) : (wM K a M).set 23 (a 23, .inl (K.2 0, 401, .inl (upd (M.1 23) k x))) = wM K a (sI M 23 k x) := rfl
theorem vM_23 (K : Kx) (a : Nat → Nat) (M : Mem) (f : Nat → Int32) : (wM K a M).set 23 (a 23, .inl (K.2 0, 401, .inl f)) = wM K a (va_up M.1 23 f, M.2) := rfl
theorem pM_24 (K : Kx) (a : Nat → Nat) (M : Mem) : (wM K a M)[24]? = some (a 24, .inl (K.2 1, 1604, .inr (.inl (M.2.1 24)))) := rfl
theorem uM_24 (K : Kx) (a : Nat → Nat) (M : Mem) (k : Nat) (x : Int64) : (wM K a M).set 24 (a 24, .inl (K.2 1, 1604, .inr (.inl (vp_updL (M.2.1 24) k x)))) = wM K a (sL M 24 k x) := rfl
theorem vM_24 (K : Kx) (a : Nat → Nat) (M : Mem) (f : Nat → Int64) : (wM K a M).set 24 (a 24, .inl (K.2 1, 1604, .inr (.inl f))) = wM K a (M.1, va_up M.2.1 24 f, M.2.2) := rfl
theorem pM_25 (K : Kx) (a : Nat → Nat) (M : Mem) : (wM K a M)[25]? = some (a 25, .inl (K.2 0, 41, .inl (M.1 25))) := rfl
theorem uM_25 (K : Kx) (a : Nat → Nat) (M : Mem) (k : Nat) (x : Int32) : (wM K a M).set 25 (a 25, .inl (K.2 0, 41, .inl (upd (M.1 25) k x))) = wM K a (sI M 25 k x) := rfl
theorem vM_25 (K : Kx) (a : Nat → Nat) (M : Mem) (f : Nat → Int32) : (wM K a M).set 25 (a 25, .inl (K.2 0, 41, .inl f)) = wM K a (va_up M.1 25 f, M.2) := rfl
theorem pM_26 (K : Kx) (a : Nat → Nat) (M : Mem) : (wM K a M)[26]? = some (a 26, .inl (K.2 0, 41, .inl (M.1 26))) := rfl
theorem uM_26 (K : Kx) (a : Nat → Nat) (M : Mem) (k : Nat) (x : Int32) : (wM K a M).set 26 (a 26, .inl (K.2 0, 41, .inl (upd (M.1 26) k x))) = wM K a (sI M 26 k x) := rfl
theorem vM_26 (K : Kx) (a : Nat → Nat) (M : Mem) (f : Nat → Int32) : (wM K a M).set 26 (a 26, .inl (K.2 0, 41, .inl f)) = wM K a (va_up M.1 26 f, M.2) := rfl
theorem pM_27 (K : Kx) (a : Nat → Nat) (M : Mem) : (wM K a M)[27]? = some (a 27, .inl (K.2 1, 41, .inr (.inl (M.2.1 27)))) := rfl
theorem uM_27 (K : Kx) (a : Nat → Nat) (M : Mem) (k : Nat) (x : Int64) : (wM K a M).set 27 (a 27, .inl (K.2 1, 41, .inr (.inl (vp_updL (M.2.1 27) k x)))) = wM K a (sL M 27 k x) := rfl
theorem vM_27 (K : Kx) (a : Nat → Nat) (M : Mem) (f : Nat → Int64) : (wM K a M).set 27 (a 27, .inl (K.2 1, 41, .inr (.inl f))) = wM K a (M.1, va_up M.2.1 27 f, M.2.2) := rfl
theorem pM_28 (K : Kx) (a : Nat → Nat) (M : Mem) : (wM K a M)[28]? = some (a 28, .inl (K.2 1, 1200, .inr (.inl (M.2.1 28)))) := rfl
theorem uM_28 (K : Kx) (a : Nat → Nat) (M : Mem) (k : Nat) (x : Int64) : (wM K a M).set 28 (a 28, .inl (K.2 1, 1200, .inr (.inl (vp_updL (M.2.1 28) k x)))) = wM K a (sL M 28 k x) := rfl
theorem vM_28 (K : Kx) (a : Nat → Nat) (M : Mem) (f : Nat → Int64) : (wM K a M).set 28 (a 28, .inl (K.2 1, 1200, .inr (.inl f))) = wM K a (M.1, va_up M.2.1 28 f, M.2.2) := rfl
theorem pM_29 (K : Kx) (a : Nat → Nat) (M : Mem) : (wM K a M)[29]? = some (a 29, .inl (K.2 1, 1200, .inr (.inl (M.2.1 29)))) := rfl
theorem uM_29 (K : Kx) (a : Nat → Nat) (M : Mem) (k : Nat) (x : Int64) : (wM K a M).set 29 (a 29, .inl (K.2 1, 1200, .inr (.inl (vp_updL (M.2.1 29) k x)))) = wM K a (sL M 29 k x) := rfl
theorem vM_29 (K : Kx) (a : Nat → Nat) (M : Mem) (f : Nat → Int64) : (wM K a M).set 29 (a 29, .inl (K.2 1, 1200, .inr (.inl f))) = wM K a (M.1, va_up M.2.1 29 f, M.2.2) := rfl
theorem pM_30 (K : Kx) (a : Nat → Nat) (M : Mem) : (wM K a M)[30]? = some (a 30, .inl (K.2 0, 40, .inl (M.1 30))) := rfl
theorem uM_30 (K : Kx) (a : Nat → Nat) (M : Mem) (k : Nat) (x : Int32) : (wM K a M).set 30 (a 30, .inl (K.2 0, 40, .inl (upd (M.1 30) k x))) = wM K a (sI M 30 k x) := rfl
theorem vM_30 (K : Kx) (a : Nat → Nat) (M : Mem) (f : Nat → Int32) : (wM K a M).set 30 (a 30, .inl (K.2 0, 40, .inl f)) = wM K a (va_up M.1 30 f, M.2) := rfl
theorem pM_31 (K : Kx) (a : Nat → Nat) (M : Mem) : (wM K a M)[31]? = some (a 31, .inl (K.2 0, 4480, .inl (M.1 31))) := rfl
theorem uM_31 (K : Kx) (a : Nat → Nat) (M : Mem) (k : Nat) (x : Int32) : (wM K a M).set 31 (a 31, .inl (K.2 0, 4480, .inl (upd (M.1 31) k x))) = wM K a (sI M 31 k x) := rfl
theorem vM_31 (K : Kx) (a : Nat → Nat) (M : Mem) (f : Nat → Int32) : (wM K a M).set 31 (a 31, .inl (K.2 0, 4480, .inl f)) = wM K a (va_up M.1 31 f, M.2) := rfl
theorem pM_32 (K : Kx) (a : Nat → Nat) (M : Mem) : (wM K a M)[32]? = some (a 32, .inl (K.2 0, 800, .inl (M.1 32))) := rfl
theorem uM_32 (K : Kx) (a : Nat → Nat) (M : Mem) (k : Nat) (x : Int32) : (wM K a M).set 32 (a 32, .inl (K.2 0, 800, .inl (upd (M.1 32) k x))) = wM K a (sI M 32 k x) := rfl
theorem vM_32 (K : Kx) (a : Nat → Nat) (M : Mem) (f : Nat → Int32) : (wM K a M).set 32 (a 32, .inl (K.2 0, 800, .inl f)) = wM K a (va_up M.1 32 f, M.2) := rfl
theorem pM_33 (K : Kx) (a : Nat → Nat) (M : Mem) : (wM K a M)[33]? = some (a 33, .inl (K.2 0, 89600, .inl (M.1 33))) := rfl
theorem uM_33 (K : Kx) (a : Nat → Nat) (M : Mem) (k : Nat) (x : Int32) : (wM K a M).set 33 (a 33, .inl (K.2 0, 89600, .inl (upd (M.1 33) k x))) = wM K a (sI M 33 k x) := rfl
theorem vM_33 (K : Kx) (a : Nat → Nat) (M : Mem) (f : Nat → Int32) : (wM K a M).set 33 (a 33, .inl (K.2 0, 89600, .inl f)) = wM K a (va_up M.1 33 f, M.2) := rfl
theorem pM_34 (K : Kx) (a : Nat → Nat) (M : Mem) : (wM K a M)[34]? = some (a 34, .inl (K.2 0, 40, .inl (M.1 34))) := rfl
theorem uM_34 (K : Kx) (a : Nat → Nat) (M : Mem) (k : Nat) (x : Int32) : (wM K a M).set 34 (a 34, .inl (K.2 0, 40, .inl (upd (M.1 34) k x))) = wM K a (sI M 34 k x) := rfl
theorem vM_34 (K : Kx) (a : Nat → Nat) (M : Mem) (f : Nat → Int32) : (wM K a M).set 34 (a 34, .inl (K.2 0, 40, .inl f)) = wM K a (va_up M.1 34 f, M.2) := rfl
theorem pM_35 (K : Kx) (a : Nat → Nat) (M : Mem) : (wM K a M)[35]? = some (a 35, .inl (K.2 0, 4480, .inl (M.1 35))) := rfl
theorem uM_35 (K : Kx) (a : Nat → Nat) (M : Mem) (k : Nat) (x : Int32) : (wM K a M).set 35 (a 35, .inl (K.2 0, 4480, .inl (upd (M.1 35) k x))) = wM K a (sI M 35 k x) := rfl
theorem vM_35 (K : Kx) (a : Nat → Nat) (M : Mem) (f : Nat → Int32) : (wM K a M).set 35 (a 35, .inl (K.2 0, 4480, .inl f)) = wM K a (va_up M.1 35 f, M.2) := rfl
theorem pM_36 (K : Kx) (a : Nat → Nat) (M : Mem) : (wM K a M)[36]? = some (a 36, .inl (K.2 1, 5, .inr (.inl (M.2.1 36)))) := rfl
theorem uM_36 (K : Kx) (a : Nat → Nat) (M : Mem) (k : Nat) (x : Int64) : (wM K a M).set 36 (a 36, .inl (K.2 1, 5, .inr (.inl (vp_updL (M.2.1 36) k x)))) = wM K a (sL M 36 k x) := rfl
theorem vM_36 (K : Kx) (a : Nat → Nat) (M : Mem) (f : Nat → Int64) : (wM K a M).set 36 (a 36, .inl (K.2 1, 5, .inr (.inl f))) = wM K a (M.1, va_up M.2.1 36 f, M.2.2) := rfl
theorem pM_37 (K : Kx) (a : Nat → Nat) (M : Mem) : (wM K a M)[37]? = some (a 37, .inl (K.2 1, 6400, .inr (.inl (M.2.1 37)))) := rfl
theorem uM_37 (K : Kx) (a : Nat → Nat) (M : Mem) (k : Nat) (x : Int64) : (wM K a M).set 37 (a 37, .inl (K.2 1, 6400, .inr (.inl (vp_updL (M.2.1 37) k x)))) = wM K a (sL M 37 k x) := rfl
theorem vM_37 (K : Kx) (a : Nat → Nat) (M : Mem) (f : Nat → Int64) : (wM K a M).set 37 (a 37, .inl (K.2 1, 6400, .inr (.inl f))) = wM K a (M.1, va_up M.2.1 37 f, M.2.2) := rfl
theorem pM_38 (K : Kx) (a : Nat → Nat) (M : Mem) : (wM K a M)[38]? = some (a 38, .inl (K.2 0, 401, .inl (M.1 38))) := rfl
theorem uM_38 (K : Kx) (a : Nat → Nat) (M : Mem) (k : Nat) (x : Int32) : (wM K a M).set 38 (a 38, .inl (K.2 0, 401, .inl (upd (M.1 38) k x))) = wM K a (sI M 38 k x) := rfl
theorem vM_38 (K : Kx) (a : Nat → Nat) (M : Mem) (f : Nat → Int32) : (wM K a M).set 38 (a 38, .inl (K.2 0, 401, .inl f)) = wM K a (va_up M.1 38 f, M.2) := rfl
theorem pM_39 (K : Kx) (a : Nat → Nat) (M : Mem) : (wM K a M)[39]? = some (a 39, .inl (K.2 0, 401, .inl (M.1 39))) := rfl
theorem uM_39 (K : Kx) (a : Nat → Nat) (M : Mem) (k : Nat) (x : Int32) : (wM K a M).set 39 (a 39, .inl (K.2 0, 401, .inl (upd (M.1 39) k x))) = wM K a (sI M 39 k x) := rfl
theorem vM_39 (K : Kx) (a : Nat → Nat) (M : Mem) (f : Nat → Int32) : (wM K a M).set 39 (a 39, .inl (K.2 0, 401, .inl f)) = wM K a (va_up M.1 39 f, M.2) := rfl
theorem pM_40 (K : Kx) (a : Nat → Nat) (M : Mem) : (wM K a M)[40]? = some (a 40, .inl (K.2 0, 6, .inl (M.1 40))) := rfl
theorem uM_40 (K : Kx) (a : Nat → Nat) (M : Mem) (k : Nat) (x : Int32) : (wM K a M).set 40 (a 40, .inl (K.2 0, 6, .inl (upd (M.1 40) k x))) = wM K a (sI M 40 k x) := rfl
theorem vM_40 (K : Kx) (a : Nat → Nat) (M : Mem) (f : Nat → Int32) : (wM K a M).set 40 (a 40, .inl (K.2 0, 6, .inl f)) = wM K a (va_up M.1 40 f, M.2) := rfl
theorem pM_41 (K : Kx) (a : Nat → Nat) (M : Mem) : (wM K a M)[41]? = some (a 41, .inl (K.2 0, 17, .inl (M.1 41))) := rfl
theorem uM_41 (K : Kx) (a : Nat → Nat) (M : Mem) (k : Nat) (x : Int32) : (wM K a M).set 41 (a 41, .inl (K.2 0, 17, .inl (upd (M.1 41) k x))) = wM K a (sI M 41 k x) := rfl
theorem vM_41 (K : Kx) (a : Nat → Nat) (M : Mem) (f : Nat → Int32) : (wM K a M).set 41 (a 41, .inl (K.2 0, 17, .inl f)) = wM K a (va_up M.1 41 f, M.2) := rfl
theorem pM_42 (K : Kx) (a : Nat → Nat) (M : Mem) : (wM K a M)[42]? = some (a 42, .inl (K.2 1, 17, .inr (.inl (M.2.1 42)))) := rfl
theorem uM_42 (K : Kx) (a : Nat → Nat) (M : Mem) (k : Nat) (x : Int64) : (wM K a M).set 42 (a 42, .inl (K.2 1, 17, .inr (.inl (vp_updL (M.2.1 42) k x)))) = wM K a (sL M 42 k x) := rfl
theorem vM_42 (K : Kx) (a : Nat → Nat) (M : Mem) (f : Nat → Int64) : (wM K a M).set 42 (a 42, .inl (K.2 1, 17, .inr (.inl f))) = wM K a (M.1, va_up M.2.1 42 f, M.2.2) := rfl
theorem pM_43 (K : Kx) (a : Nat → Nat) (M : Mem) : (wM K a M)[43]? = some (a 43, .inl (K.2 1, 17, .inr (.inl (M.2.1 43)))) := rfl
theorem uM_43 (K : Kx) (a : Nat → Nat) (M : Mem) (k : Nat) (x : Int64) : (wM K a M).set 43 (a 43, .inl (K.2 1, 17, .inr (.inl (vp_updL (M.2.1 43) k x)))) = wM K a (sL M 43 k x) := rfl
theorem vM_43 (K : Kx) (a : Nat → Nat) (M : Mem) (f : Nat → Int64) : (wM K a M).set 43 (a 43, .inl (K.2 1, 17, .inr (.inl f))) = wM K a (M.1, va_up M.2.1 43 f, M.2.2) := rfl
theorem pM_44 (K : Kx) (a : Nat → Nat) (M : Mem) : (wM K a M)[44]? = some (a 44, .inl (K.2 0, 401, .inl (M.1 44))) := rfl
theorem uM_44 (K : Kx) (a : Nat → Nat) (M : Mem) (k : Nat) (x : Int32) : (wM K a M).set 44 (a 44, .inl (K.2 0, 401, .inl (upd (M.1 44) k x))) = wM K a (sI M 44 k x) := rfl
theorem vM_44 (K : Kx) (a : Nat → Nat) (M : Mem) (f : Nat → Int32) : (wM K a M).set 44 (a 44, .inl (K.2 0, 401, .inl f)) = wM K a (va_up M.1 44 f, M.2) := rfl
