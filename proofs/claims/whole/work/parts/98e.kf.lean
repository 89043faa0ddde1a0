/-! the law from its entry -/
theorem tb1 {w : Cond} (i : Nat) (h : tables_1_1[i]? = some w) : w ∈ lw_tbl := List.mem_append_right _ (List.mem_append_left _ (List.mem_of_getElem? h))
theorem tb2 {w : Cond} (i : Nat) (h : tables_1_2[i]? = some w) : w ∈ lw_tbl := List.mem_append_right _ (List.mem_append_right _ (List.mem_append_left _ (List.mem_of_getElem? h)))
theorem tb5 {w : Cond} (i : Nat) (h : tables_1_5[i]? = some w) : w ∈ lw_tbl := List.mem_append_right _ (List.mem_append_right _ (List.mem_append_right _ (List.mem_append_right _ (List.mem_append_right _ (List.mem_append_left _ (List.mem_of_getElem? h))))))
theorem arr_p {s : State} {args : Array Value} {ty : FieldType} (h : (Cond.arrayClass ty).before args s = true) : ∃ cA, ArrOfT s cA ty ∧ s.vm.findClass ("[" ++ ty.toString) = some cA := by
  obtain ⟨c, k, comp, h1, h2, h3⟩ := Cond.arrayClass_spec h
  exact ⟨c, fun n z => ⟨(fun k h => by cases h), k, h2, comp, h3⟩, h1⟩
theorem arr_q {s : State} {args : Array Value} {C : String} (h : (Cond.arrayOver (.object C)).before args s = true) : ∃ cA, ArrOfT s cA (.object C) ∧ va_RA s cA (.object C) := by
  obtain ⟨comp, c, k, h1, h2, h3, h4, h5⟩ := Cond.arrayOver_spec h
  exact ⟨c, fun n z => ⟨(fun k h => by cases h), k, h3, comp, h4⟩, k, comp, h3, h4, h1, h5⟩
def sel {α : Type} (l : List α) (x : α) (k : Nat) : α := l.getD k x
set_option maxRecDepth 100000 in
set_option maxHeartbeats 4000000 in
theorem kf0 {s : State} {b : Nat} (hts : ∀ w ∈ lw_tbl, w.before #[Value.ref b] s = true) : ∃ K : Kx, KF K s := by
  have htt : ∀ w ∈ TT, w.before #[Value.ref b] s = true := fun w hw => hts w (List.mem_filter.mp hw).1
  obtain ⟨c0, iS0, hK0⟩ := u_known (C := RX0) (T := TX0) (N := 9) (n := 9) htt iX0 (htt _ is_X0)
  obtain ⟨c1, iS1, hK1⟩ := u_known (C := RX1) (T := TX1) (N := 15) (n := 15) htt iX1 (htt _ is_X1)
  obtain ⟨c2, iS2, hK2⟩ := u_known (C := RX2) (T := TX2) (N := 17) (n := 17) htt iX2 (htt _ is_X2)
  obtain ⟨c3, iS3, hK3⟩ := u_known (C := RX3) (T := TX3) (N := 6) (n := 6) htt iX3 (htt _ is_X3)
  obtain ⟨c4, iS4, hK4⟩ := u_known (C := RX4) (T := TX4) (N := 3) (n := 3) htt iX4 (htt _ is_X4)
  obtain ⟨c5, iS5, hK5⟩ := u_known (C := RX5) (T := TX5) (N := 3) (n := 3) htt iX5 (htt _ is_X5)
  obtain ⟨c6, iS6, hK6⟩ := u_known (C := RX6) (T := TX6) (N := 5) (n := 5) htt iX6 (htt _ is_X6)
  obtain ⟨c7, iS7, hK7⟩ := u_known (C := RX7) (T := TX7) (N := 2) (n := 2) htt iX7 (htt _ is_X7)
  obtain ⟨c8, iS8, hK8⟩ := u_known (C := RX8) (T := TX8) (N := 4) (n := 4) htt iX8 (htt _ is_X8)
  obtain ⟨c9, iS9, hK9⟩ := u_known (C := RX9) (T := TX9) (N := 9) (n := 9) htt iX9 (htt _ is_X9)
  obtain ⟨c10, iS10, hK10⟩ := u_known (C := RX10) (T := TX10) (N := 17) (n := 17) htt iX10 (htt _ is_X10)
  obtain ⟨c11, iS11, hK11⟩ := u_known (C := RX11) (T := TX11) (N := 17) (n := 17) htt iX11 (htt _ is_X11)
  obtain ⟨c12, iS12, hK12⟩ := u_known (C := RX12) (T := TX12) (N := 61) (n := 61) htt iX12 (htt _ is_X12)
  have ao1 : (Cond.arrayOver (.object "LoopLoom$Rack")).before #[Value.ref b] s = true := hts _ (tb1 151 (by decide +kernel))
  have ao2 : (Cond.arrayOver (.object "LoopLoom$Sheet")).before #[Value.ref b] s = true := hts _ (tb1 177 (by decide +kernel))
  obtain ⟨a0, p0, q0⟩ := arr_p (htt _ ar_int)
  obtain ⟨a1, p1, q1⟩ := arr_p (htt _ ar_long)
  obtain ⟨a2, p2, q2⟩ := arr_p (htt _ ar_byte)
  obtain ⟨a3, p3, q3⟩ := arr_q ao1
  obtain ⟨a4, p4, q4⟩ := arr_q ao2
  refine ⟨((sel [c0, c1, c2, c3, c4, c5, c6, c7, c8, c9, c10, c11, c12] c0, sel [iS0, iS1, iS2, iS3, iS4, iS5, iS6, iS7, iS8, iS9, iS10, iS11, iS12] iS0), sel [a0, a1, a2, a3, a4] a0), ⟨fun k q hq => ?_, fun k q hq => ?_⟩, fun w hw => ?_, va_AO.of ao1, va_AO.of ao2⟩
  · match k, hq with
    | 0, hq => cases hq; exact hK0
    | 1, hq => cases hq; exact hK1
    | 2, hq => cases hq; exact hK2
    | 3, hq => cases hq; exact hK3
    | 4, hq => cases hq; exact hK4
    | 5, hq => cases hq; exact hK5
    | 6, hq => cases hq; exact hK6
    | 7, hq => cases hq; exact hK7
    | 8, hq => cases hq; exact hK8
    | 9, hq => cases hq; exact hK9
    | 10, hq => cases hq; exact hK10
    | 11, hq => cases hq; exact hK11
    | 12, hq => cases hq; exact hK12
    | k + 13, hq => exact absurd hq (by simp [vwCl])
  · match k, hq with
    | 0, hq => cases hq; exact ⟨p0, q0⟩
    | 1, hq => cases hq; exact ⟨p1, q1⟩
    | 2, hq => cases hq; exact ⟨p2, q2⟩
    | 3, hq => cases hq; exact ⟨p3, q3⟩
    | 4, hq => cases hq; exact ⟨p4, q4⟩
    | k + 5, hq => exact absurd hq (by simp [tysK])
  · rcases List.mem_cons.mp hw with rfl | hw
    · exact va_Nw.of rfl (hts _ (tb1 27 (by decide +kernel)))
    · rcases List.mem_cons.mp hw with rfl | hw
      · exact va_Nw.of rfl (hts _ (tb1 134 (by decide +kernel)))
      · rcases List.mem_cons.mp hw with rfl | hw
        · exact va_Nw.of rfl (hts _ (tb1 160 (by decide +kernel)))
        · rcases List.mem_cons.mp hw with rfl | hw
          · exact va_Nw.of rfl (hts _ (tb2 172 (by decide +kernel)))
          · rcases List.mem_cons.mp hw with rfl | hw
            · exact va_Nw.of rfl (hts _ (tb5 48 (by decide +kernel)))
            · exact absurd hw (by simp)
def ad (q : Nat) (u : Nat → Nat) (k : Nat) : Nat := if k = 0 then q else u (k - 1)
set_option maxRecDepth 100000 in
set_option maxHeartbeats 4000000 in
theorem eC (K : Kx) (h0 : Nat) (u d : Nat → Nat) : ([(h0, .inr (11, [.ref (u 0), .ref (u 4), .ref (u 20), .ref (u 24), .int 0, .ref (u 25), .ref (u 33), .ref (u 37), .ref (u 42), .ref (u 54), .ref (u 62), .long 0, .int 0, .ref (u 66), .int 0, .int (-9), .ref (u 67)])), ((u 0), .inr (8, [.ref (u 1), .ref (u 2), .ref (u 3), .int 1])), ((u 1), .inl (K.2 0, 3, .inl (fun _ => 0))), ((u 2), .inl (K.2 0, 8, .inl (fun _ => 0))), ((u 3), .inl (K.2 0, 640, .inl (fun _ => 0))), ((u 4), .inr (2, [.ref (u 5), .ref (u 6), .ref (u 7), .ref (u 8), .ref (u 9), .ref (u 10), .ref (u 11), .ref (u 12), .ref (u 13), .ref (u 14), .int 0, .ref (u 15), .ref (u 16), .int 0, .ref (u 17), .ref (u 18), .ref (u 19)])), ((u 5), .inl (K.2 0, 41, .inl (fl_ (fun _ => 0) 0 41 (-9)))), ((u 6), .inl (K.2 0, 41, .inl (fl_ (fun _ => 0) 0 41 (-9)))), ((u 7), .inl (K.2 0, 40, .inl (fun _ => 0))), ((u 8), .inl (K.2 0, 40, .inl (fun _ => 0))), ((u 9), .inl (K.2 0, 40, .inl (fun _ => 0))), ((u 10), .inl (K.2 0, 40, .inl (fun _ => 0))), ((u 11), .inl (K.2 0, 40, .inl (fun _ => 0))), ((u 12), .inl (K.2 0, 40, .inl (fun _ => 0))), ((u 13), .inl (K.2 0, 160, .inl (fun _ => 0))), ((u 14), .inl (K.2 0, 200, .inl (fun _ => 0))), ((u 15), .inl (K.2 0, 12, .inl (fun _ => 0))), ((u 16), .inl (K.2 0, 40, .inl (fun _ => 0))), ((u 17), .inl (K.2 0, 36, .inl (fl_ (fun _ => 0) 0 36 (-9)))), ((u 18), .inl (K.2 0, 36, .inl (fun _ => 0))), ((u 19), .inl (K.2 0, 36, .inl (fun _ => 0))), ((u 20), .inr (4, [.ref (u 21), .ref (u 22), .ref (u 23)])), ((u 21), .inl (K.2 0, 40, .inl (fun _ => 0))), ((u 22), .inl (K.2 0, 40, .inl (fun _ => 0))), ((u 23), .inl (K.2 2, 480, .inl (fun _ => 0))), ((u 24), .inl (K.2 3, 8, .inr (.inr (.inr (.inr (fun _ => none)))))), ((u 25), .inr (3, [.ref (u 4), .ref (u 26), .ref (u 29), .ref (u 32), .int 0, .int 0])), ((u 26), .inr (7, [.ref (u 27), .ref (u 28)])), ((u 27), .inl (K.2 0, 1344, .inl (fun _ => 0))), ((u 28), .inl (K.2 0, 12, .inl (fun _ => 0))), ((u 29), .inr (7, [.ref (u 30), .ref (u 31)])), ((u 30), .inl (K.2 0, 1344, .inl (fun _ => 0))), ((u 31), .inl (K.2 0, 12, .inl (fun _ => 0))), ((u 32), .inl (K.2 4, 20, .inr (.inr (.inr (.inr (fun _ => none)))))), ((u 33), .inr (0, [.ref (u 0), .ref (u 4), .ref (u 34), .ref (u 35), .ref (u 36), .int 0, .int 0, .int 0, .int 0])), ((u 34), .inl (K.2 0, 400, .inl (fun _ => 0))), ((u 35), .inl (K.2 1, 1600, .inr (.inl (fun _ => 0)))), ((u 36), .inl (K.2 1, 4, .inr (.inl (fun _ => 0)))), ((u 37), .inr (9, [.ref (u 0), .ref (u 4), .ref (u 33), .ref (u 38), .ref (u 39), .ref (u 40), .int 0, .ref (u 41), .int 0])), ((u 38), .inl (K.2 1, 1200, .inr (.inl (fun _ => 0)))), ((u 39), .inl (K.2 1, 1200, .inr (.inl (fun _ => 0)))), ((u 40), .inl (K.2 0, 1200, .inl (fun _ => 0))), ((u 41), .inl (K.2 0, 2048, .inl (fun _ => 0))), ((u 42), .inr (1, [.ref (u 4), .ref (u 33), .ref (u 37), .ref (u 43), .ref (u 44), .ref (u 45), .ref (u 46), .ref (u 47), .ref (u 48), .ref (u 49), .ref (u 50), .ref (u 51), .ref (u 52), .ref (u 53), .int 0])), ((u 43), .inl (K.2 0, 432, .inl (fun _ => 0))), ((u 44), .inl (K.2 0, 5, .inl (fun _ => 0))), ((u 45), .inl (K.2 0, 144, .inl (fun _ => 0))), ((u 46), .inl (K.2 0, 720, .inl (fun _ => 0))), ((u 47), .inl (K.2 0, 144, .inl (fun _ => 0))), ((u 48), .inl (K.2 1, 576, .inr (.inl (fun _ => 0)))), ((u 49), .inl (K.2 1, 576, .inr (.inl (fun _ => 0)))), ((u 50), .inl (K.2 0, 1200, .inl (fun _ => 0))), ((u 51), .inl (K.2 0, 400, .inl (fun _ => 0))), ((u 52), .inl (K.2 0, 1200, .inl (fun _ => 0))), ((u 53), .inl (K.2 0, 800, .inl (fun _ => 0))), ((u 54), .inr (10, [.ref (u 25), .ref (u 33), .ref (u 37), .ref (u 55), .ref (u 56), .ref (u 57), .ref (u 58), .int 0, .ref (u 59), .ref (u 60), .int (-9), .int (-9), .int (-9), .int 0, .ref (u 61), .int 0, .int 0])), ((u 55), .inl (K.2 1, 6400, .inr (.inl (fun _ => 0)))), ((u 56), .inl (K.2 0, 400, .inl (fun _ => 0))), ((u 57), .inl (K.2 0, 400, .inl (fun _ => 0))), ((u 58), .inl (K.2 0, 400, .inl (fun _ => 0))), ((u 59), .inl (K.2 0, 1200, .inl (fun _ => 0))), ((u 60), .inl (K.2 0, 1200, .inl (fun _ => 0))), ((u 61), .inl (K.2 0, 401, .inl (fun _ => 0))), ((u 62), .inr (6, [.ref (u 63), .ref (u 64), .ref (u 65), .int 0, .int 0])), ((u 63), .inl (K.2 0, 16, .inl (fun _ => 0))), ((u 64), .inl (K.2 1, 16, .inr (.inl (fun _ => 0)))), ((u 65), .inl (K.2 1, 16, .inr (.inl (fun _ => 0)))), ((u 66), .inl (K.2 0, 6, .inl (fun _ => 0))), ((u 67), .inl (K.2 1, 4, .inr (.inl (fun _ => 0))))] : va_W) = wC K (ad h0 u) d Mc0 := rfl
set_option maxRecDepth 100000 in
set_option maxHeartbeats 4000000 in
theorem eM (K : Kx) (h0 : Nat) (u : Nat → Nat) : ([(h0, .inr (12, [.int 0, .ref (u 0), .ref (u 1), .ref (u 2), .int 1, .ref (u 3), .ref (u 4), .int 0, .ref (u 5), .ref (u 6), .ref (u 7), .ref (u 8), .ref (u 9), .int 0, .ref (u 10), .ref (u 11), .ref (u 12), .ref (u 13), .ref (u 14), .ref (u 15), .ref (u 16), .ref (u 17), .int 0, .ref (u 18), .ref (u 19), .ref (u 20), .ref (u 21), .long 0, .int 0, .ref (u 22), .ref (u 23), .int 0, .int 0, .ref (u 24), .ref (u 25), .ref (u 26), .ref (u 27), .ref (u 28), .ref (u 29), .ref (u 30), .int 0, .ref (u 31), .ref (u 32), .ref (u 33), .ref (u 34), .ref (u 35), .ref (u 36), .ref (u 37), .ref (u 38), .int 0, .int 0, .int 0, .ref (u 39), .long 0, .long 0, .ref (u 40), .ref (u 41), .ref (u 42), .int 0, .int 0, .ref (u 43)])), ((u 0), .inl (K.2 0, 6, .inl (fun _ => 0))), ((u 1), .inl (K.2 0, 3, .inl (fun _ => 0))), ((u 2), .inl (K.2 0, 8, .inl (fun _ => 0))), ((u 3), .inl (K.2 0, 640, .inl (fun _ => 0))), ((u 4), .inl (K.2 1, 4, .inr (.inl (fun _ => 0)))), ((u 5), .inl (K.2 0, 40, .inl (fun _ => 0))), ((u 6), .inl (K.2 0, 40, .inl (fun _ => 0))), ((u 7), .inl (K.2 0, 40, .inl (fun _ => 0))), ((u 8), .inl (K.2 0, 40, .inl (fun _ => 0))), ((u 9), .inl (K.2 0, 40, .inl (fun _ => 0))), ((u 10), .inl (K.2 0, 120, .inl (fun _ => 0))), ((u 11), .inl (K.2 0, 120, .inl (fun _ => 0))), ((u 12), .inl (K.2 0, 120, .inl (fun _ => 0))), ((u 13), .inl (K.2 0, 40, .inl (fun _ => 0))), ((u 14), .inl (K.2 0, 40, .inl (fun _ => 0))), ((u 15), .inl (K.2 0, 40, .inl (fun _ => 0))), ((u 16), .inl (K.2 2, 480, .inl (fun _ => 0))), ((u 17), .inl (K.2 2, 12, .inl (fun _ => 0))), ((u 18), .inl (K.2 0, 8, .inl (fun _ => 0))), ((u 19), .inl (K.2 0, 8, .inl (fun _ => 0))), ((u 20), .inl (K.2 0, 160, .inl (fun _ => 0))), ((u 21), .inl (K.2 1, 3200, .inr (.inl (fun _ => 0)))), ((u 22), .inl (K.2 0, 401, .inl (fun _ => 0))), ((u 23), .inl (K.2 1, 1604, .inr (.inl (fun _ => 0)))), ((u 24), .inl (K.2 0, 41, .inl (fun _ => 0))), ((u 25), .inl (K.2 0, 41, .inl (fun _ => 0))), ((u 26), .inl (K.2 1, 41, .inr (.inl (fun _ => 0)))), ((u 27), .inl (K.2 1, 1200, .inr (.inl (fun _ => 0)))), ((u 28), .inl (K.2 1, 1200, .inr (.inl (fun _ => 0)))), ((u 29), .inl (K.2 0, 40, .inl (fun _ => 0))), ((u 30), .inl (K.2 0, 4480, .inl (fun _ => 0))), ((u 31), .inl (K.2 0, 800, .inl (fun _ => 0))), ((u 32), .inl (K.2 0, 89600, .inl (fun _ => 0))), ((u 33), .inl (K.2 0, 40, .inl (fun _ => 0))), ((u 34), .inl (K.2 0, 4480, .inl (fun _ => 0))), ((u 35), .inl (K.2 1, 5, .inr (.inl (fun _ => 0)))), ((u 36), .inl (K.2 1, 6400, .inr (.inl (fun _ => 0)))), ((u 37), .inl (K.2 0, 401, .inl (fun _ => 0))), ((u 38), .inl (K.2 0, 401, .inl (fun _ => 0))), ((u 39), .inl (K.2 0, 6, .inl (upd (upd (upd (upd (upd (fun _ => 0) 1 (-9)) 2 (-9)) 3 (-9)) 4 (-9)) 5 (-9)))), ((u 40), .inl (K.2 0, 17, .inl (fun _ => 0))), ((u 41), .inl (K.2 1, 17, .inr (.inl (fun _ => 0)))), ((u 42), .inl (K.2 1, 17, .inr (.inl (fun _ => 0)))), ((u 43), .inl (K.2 0, 401, .inl (fun _ => 0)))] : va_W) = wM K (ad h0 u) Mm0 := rfl
