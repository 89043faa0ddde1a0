set_option maxRecDepth 100000 in
set_option maxHeartbeats 1000000 in
theorem c_X7_take_na (l : Launch) (K : Kx) (a d : Nat → Nat) {M M0 : Mem} {x2 : Int32}  (h : f_X7_take_na M x2 = some M0) : CMv l yX7_take cX7_take 3 ({ frames := 1, cells := 0, slots := 0, locals := 60 } : Room) K [.ref (a 27), .ref (a 30), .int x2] (wC K a d M) (fun _ => wC K a d M0) := by
  refine cs_v (by decide +kernel) (Nat.le_of_ble_eq_true rfl) ?_
  intro p e s m args below meth c A ls hF hr hk hnm hW hl
  have hx := hF.1
  have hb := hF.2.1
  have hl : lv_has ls 3 [(0, .ref (a 27)), (1, .ref (a 30)), (2, .int x2)] := hl
  obtain ⟨H, hH⟩ : ∃ z, z = s.heap := ⟨_, rfl⟩
  rw [← hH] at hW ⊢
  unfold f_X7_take_na at h
  refine lv_aload_n hx hb dX7_take_0 rfl (lv_at hl 1 rfl) ?_
  refine g_X7_9_aside hF hW dX7_take_1 ?_
  refine lv_iconst (v := 0) hx hb dX7_take_4 (by decide) ?_
  refine lv_aload_n hx hb dX7_take_5 rfl (lv_at hl 0 rfl) ?_
  refine g_X7_9_now hF hW dX7_take_6 ?_
  refine lv_iconst (v := 0) hx hb dX7_take_9 (by decide) ?_
  refine lv_iload_n hx hb dX7_take_10 rfl (lv_at hl 2 rfl) ?_
  refine lv_bipush (v := 16) hx hb dX7_take_11 (by decide) ?_
  refine lv_imul hx hb dX7_take_13 ?_
  refine lv_bipush (v := 7) hx hb dX7_take_14 (by decide) ?_
  refine lv_imul hx hb dX7_take_16 ?_
  obtain ⟨q1, h⟩ := ca_some h
  refine w_cpyi (rest := []) hF hW al_X7_18 ac_n ac_s ac_i (pC_31 K a d _) (pC_28 K a d _) q1 (vC_28 K a d _ _) hl.1 (Nat.le_of_ble_eq_true rfl) (Nat.le_of_ble_eq_true rfl) dX7_take_17 (fun H locs hW => ?_)
  refine lv_aload_n hx hb dX7_take_20 rfl (lv_at hl 1 rfl) ?_
  refine g_X7_15_aside hF hW dX7_take_21 ?_
  refine lv_iconst (v := 0) hx hb dX7_take_24 (by decide) ?_
  refine lv_aload_n hx hb dX7_take_25 rfl (lv_at hl 0 rfl) ?_
  refine g_X7_15_now hF hW dX7_take_26 ?_
  refine lv_iconst (v := 0) hx hb dX7_take_29 (by decide) ?_
  refine lv_iload_n hx hb dX7_take_30 rfl (lv_at hl 2 rfl) ?_
  obtain ⟨q2, h⟩ := ca_some h
  refine w_cpyi (rest := []) hF hW al_X7_18 ac_n ac_s ac_i (pC_32 K a d _) (pC_29 K a d _) q2 (vC_29 K a d _ _) hl.1 (Nat.le_of_ble_eq_true rfl) (Nat.le_of_ble_eq_true rfl) dX7_take_31 (fun H locs hW => ?_)
  obtain rfl := Option.some.inj h
  exact rt_v hF hr hk (fun _ => 0) hW dX7_take_34
set_option maxRecDepth 100000 in
set_option maxHeartbeats 1000000 in
theorem c_X7_addRow (l : Launch) (K : Kx) (a d : Nat → Nat) {M M0 : Mem} {x1 : Int32} {r0 : Int32} (h : f_X7_addRow M x1 = some (r0, M0)) : CMi l yX7_addRow cX7_addRow 3 (some .int) ({ frames := 2, cells := 0, slots := 0, locals := 64 } : Room) K [.ref (a 27), .int x1] (wC K a d M) (fun _ => wC K a d M0) r0 := by
  refine cs_i (by decide +kernel) (Nat.le_of_ble_eq_true rfl) ?_
  intro p e s m args below meth c A ls hF hr hk hnm hW hl
  have hx := hF.1
  have hb := hF.2.1
  have hl : lv_has ls 3 [(0, .ref (a 27)), (1, .int x1)] := hl
  obtain ⟨H, hH⟩ : ∃ z, z = s.heap := ⟨_, rfl⟩
  rw [← hH] at hW ⊢
  unfold f_X7_addRow at h
  refine lv_aload_n hx hb dX7_addRow_0 rfl (lv_at hl 0 rfl) ?_
  refine lv_iload_n hx hb dX7_addRow_1 rfl (lv_at hl 1 rfl) ?_
  refine lv_aload_n hx hb dX7_addRow_2 rfl (lv_at hl 0 rfl) ?_
  refine g_X7_15_now hF hW dX7_addRow_3 ?_
  refine lv_iload_n hx hb dX7_addRow_6 rfl (lv_at hl 1 rfl) ?_
  obtain ⟨q1, h⟩ := ck_some h
  refine w_ild hF hW (pC_29 K a d _) q1 dX7_addRow_7 ?_
  obtain ⟨r2, hc4, h⟩ := bq_some h
  refine cV_i (ci := 7) (q0 := 27) (rest := []) hF hW mw_X7_28 (c_X7_at l K a d hc4) ⟨Nat.le_of_ble_eq_true rfl, Nat.le_of_ble_eq_true rfl⟩ rfl rfl (pC_27 K a d _) rfl hl.1 rfl (Nat.le_of_ble_eq_true rfl) dX7_addRow_8 ⟨Nat.le_of_ble_eq_true rfl, Nat.le_of_ble_eq_true rfl⟩ (fun _ H locs hW => ?_)
  refine lv_istore_n (lv' := [(2, .int r2), (0, .ref (a 27)), (1, .int x1)]) hx hb dX7_addRow_11 rfl hl (by decide) rfl (fun ls hl => ?_)
  refine lv_aload_n hx hb dX7_addRow_12 rfl (lv_at hl 1 rfl) ?_
  refine g_X7_9_now hF hW dX7_addRow_13 ?_
  refine lv_iload_n hx hb dX7_addRow_16 rfl (lv_at hl 0 rfl) ?_
  refine lv_iload_n hx hb dX7_addRow_17 rfl (lv_at hl 0 rfl) ?_
  refine lv_bipush (v := 7) hx hb dX7_addRow_18 (by decide) ?_
  refine lv_iadd hx hb dX7_addRow_20 ?_
  refine lv_iconst (v := 0) hx hb dX7_addRow_21 (by decide) ?_
  obtain ⟨q5, h⟩ := cf_some h
  refine cS_v (rest := []) hF hW mw_X7_32 (c_fillI_r l K (pC_28 K a d _) q5 (by decide)) ⟨Nat.le_of_ble_eq_true rfl, Nat.le_of_ble_eq_true rfl⟩ rfl hl.1 rfl (Nat.le_of_ble_eq_true rfl) dX7_addRow_22 ⟨Nat.le_of_ble_eq_true rfl, Nat.le_of_ble_eq_true rfl⟩ (fun _ H locs hW => ?_)
  have hW : Wd K A s (wC K a d (fI M 28 r2.toNatClampNeg (r2 + 7).toNatClampNeg 0)) H locs := hW
  refine lv_aload_n hx hb dX7_addRow_25 rfl (lv_at hl 1 rfl) ?_
  refine g_X7_9_now hF hW dX7_addRow_26 ?_
  refine lv_iload_n hx hb dX7_addRow_29 rfl (lv_at hl 0 rfl) ?_
  refine lv_iconst (v := 5) hx hb dX7_addRow_30 (by decide) ?_
  refine lv_iadd hx hb dX7_addRow_31 ?_
  refine lv_iconst (v := 1) hx hb dX7_addRow_32 (by decide) ?_
  obtain ⟨q6, h⟩ := ck_some h
  refine w_ist hF hW (pC_28 K a d _) q6 (uC_28 K a d _ _ _) dX7_addRow_33 (fun H locs hW => ?_)
  refine lv_aload_n hx hb dX7_addRow_34 rfl (lv_at hl 1 rfl) ?_
  refine g_X7_9_now hF hW dX7_addRow_35 ?_
  refine lv_iload_n hx hb dX7_addRow_38 rfl (lv_at hl 0 rfl) ?_
  refine lv_bipush (v := 6) hx hb dX7_addRow_39 (by decide) ?_
  refine lv_iadd hx hb dX7_addRow_41 ?_
  refine lv_bipush (v := (-9)) hx hb dX7_addRow_42 (by decide) ?_
  obtain ⟨q7, h⟩ := ck_some h
  refine w_ist hF hW (pC_28 K a d _) q7 (uC_28 K a d _ _ _) dX7_addRow_44 (fun H locs hW => ?_)
  refine lv_aload_n hx hb dX7_addRow_45 rfl (lv_at hl 1 rfl) ?_
  refine g_X7_15_now hF hW dX7_addRow_46 ?_
  refine lv_iload_n hx hb dX7_addRow_49 rfl (lv_at hl 2 rfl) ?_
  refine lv_dup2_11 hx hb dX7_addRow_50 rfl rfl ?_
  obtain ⟨q8, h⟩ := ck_some h
  refine w_ild hF hW (pC_29 K a d _) q8 dX7_addRow_51 ?_
  refine lv_iconst (v := 1) hx hb dX7_addRow_52 (by decide) ?_
  refine lv_iadd hx hb dX7_addRow_53 ?_
  obtain ⟨q9, h⟩ := ck_some h
  refine w_ist hF hW (pC_29 K a d _) q9 (uC_29 K a d _ _ _) dX7_addRow_54 (fun H locs hW => ?_)
  refine lv_iload_n hx hb dX7_addRow_55 rfl (lv_at hl 0 rfl) ?_
  obtain ⟨rfl, rfl⟩ := Prod.mk.inj (Option.some.inj h)
  exact rt_i hF hr hk rfl (fun _ => 0) hW rfl dX7_addRow_56
set_option maxRecDepth 100000 in
set_option maxHeartbeats 1000000 in
theorem c_X7_loopRow (l : Launch) (K : Kx) (a d : Nat → Nat) {M : Mem} {x1 : Int32} {x2 : Int32} {r0 : Int32} (h : f_X7_loopRow M x1 x2 = some r0) : CMi l yX7_loopRow cX7_loopRow 5 (some .int) ({ frames := 1, cells := 0, slots := 0, locals := 22 } : Room) K [.ref (a 27), .int x1, .int x2] (wC K a d M) (fun _ => wC K a d M) r0 := by
  refine cs_i (by decide +kernel) (Nat.le_of_ble_eq_true rfl) ?_
  intro p e s m args below meth c A ls hF hr hk hnm hW hl
  have hx := hF.1
  have hb := hF.2.1
  have hl : lv_has ls 5 [(0, .ref (a 27)), (1, .int x1), (2, .int x2)] := hl
  obtain ⟨H, hH⟩ : ∃ z, z = s.heap := ⟨_, rfl⟩
  rw [← hH] at hW ⊢
  have J2 : ∀ (n2 : Nat) (x1 : Int32) (x2 : Int32) (x3 : Int32) (M : Mem) (H : Heap) (locs : List Loc) (ls : Array Slot), f_X7_loopRow_2 n2 x1 x2 x3 M = some r0 → Wd K A s (wC K a d M) H locs → lv_has ls 5 [(0, .ref (a 27)), (1, .int x1), (2, .int x2), (3, .int x3)] → W p l e ({ frames := 1, cells := 0, slots := 0, locals := 22 } : Room) s m args below meth c H locs 0 0 (EndI K A (fun _ => wC K a d M) r0 below args s ({ frames := 1, cells := 0, slots := 0, locals := 22 } : Room)) (F0 m 2 ls []) := by
    intro n2
    induction n2 with
    | zero => intro x1 x2 x3 M H locs ls h; exact absurd h (by simp [f_X7_loopRow_2])
    | succ n2 ih2 =>
      intro x1 x2 x3 M H locs ls h hW hl
      rw [f_X7_loopRow_2] at h
      refine lv_iload_n hx hb dX7_loopRow_2 rfl (lv_at hl 3 rfl) ?_
      refine lv_aload_n hx hb dX7_loopRow_3 rfl (lv_at hl 0 rfl) ?_
      refine g_X7_15_now hF hW dX7_loopRow_4 ?_
      refine lv_iload_n hx hb dX7_loopRow_7 rfl (lv_at hl 1 rfl) ?_
      obtain ⟨q1, h⟩ := ck_some h
      refine w_ild hF hW (pC_29 K a d _) q1 dX7_loopRow_8 ?_
      refine lv_icmp_ge (tgt := 43) hx hb dX7_loopRow_9 (by decide) (fun q2 => ?_) (fun q2 => ?_)
      · have h := ifp q2 h
        refine lv_bipush (v := (-9)) hx hb dX7_loopRow_43 (by decide) ?_
        obtain rfl := Option.some.inj h
        exact rt_i hF hr hk rfl (fun _ => 0) hW rfl dX7_loopRow_45
      · have h := ifn q2 h
        refine lv_aload_n hx hb dX7_loopRow_12 rfl (lv_at hl 0 rfl) ?_
        refine lv_iload_n hx hb dX7_loopRow_13 rfl (lv_at hl 1 rfl) ?_
        refine lv_iload_n hx hb dX7_loopRow_14 rfl (lv_at hl 3 rfl) ?_
        obtain ⟨r3, hc5, h⟩ := bq_some h
        refine cV_i (ci := 7) (q0 := 27) (rest := []) hF hW mw_X7_28 (c_X7_at l K a d hc5) ⟨Nat.le_of_ble_eq_true rfl, Nat.le_of_ble_eq_true rfl⟩ rfl rfl (pC_27 K a d _) rfl hl.1 rfl (Nat.le_of_ble_eq_true rfl) dX7_loopRow_15 ⟨Nat.le_of_ble_eq_true rfl, Nat.le_of_ble_eq_true rfl⟩ (fun _ H locs hW => ?_)
        refine lv_istore (lv' := [(4, .int r3), (0, .ref (a 27)), (1, .int x1), (2, .int x2), (3, .int x3)]) hx hb dX7_loopRow_18 hl (by decide) rfl (fun ls hl => ?_)
        refine lv_aload_n hx hb dX7_loopRow_20 rfl (lv_at hl 1 rfl) ?_
        refine g_X7_9_now hF hW dX7_loopRow_21 ?_
        refine lv_iload hx hb dX7_loopRow_24 (lv_at hl 0 rfl) ?_
        refine lv_bipush (v := 6) hx hb dX7_loopRow_26 (by decide) ?_
        refine lv_iadd hx hb dX7_loopRow_28 ?_
        obtain ⟨q6, h⟩ := ck_some h
        refine w_ild hF hW (pC_28 K a d _) q6 dX7_loopRow_29 ?_
        refine lv_iload_n hx hb dX7_loopRow_30 rfl (lv_at hl 3 rfl) ?_
        refine lv_icmp_ne (tgt := 37) hx hb dX7_loopRow_31 (by decide) (fun q7 => ?_) (fun q7 => ?_)
        · have h := ifn q7 h
          refine lv_iinc (v := (x3 + 1)) (lv' := [(3, .int (x3 + 1)), (4, .int r3), (0, .ref (a 27)), (1, .int x1), (2, .int x2)]) hx hb dX7_loopRow_37 hl (k := 4) rfl rfl (by decide) rfl (fun ls hl => ?_)
          refine lv_goto (tgt := 2) hx hb dX7_loopRow_40 (by decide) ?_
          exact ih2 x1 x2 (x3 + 1) _ _ _ _ h hW (lv_sub hl [2, 3, 4, 0] rfl)
        · have h := ifp q7 h
          refine lv_iload hx hb dX7_loopRow_34 (lv_at hl 0 rfl) ?_
          obtain rfl := Option.some.inj h
          exact rt_i hF hr hk rfl (fun _ => 0) hW rfl dX7_loopRow_36
  unfold f_X7_loopRow at h
  refine lv_iconst (v := 0) hx hb dX7_loopRow_0 (by decide) ?_
  refine lv_istore_n (lv' := [(3, .int 0), (0, .ref (a 27)), (1, .int x1), (2, .int x2)]) hx hb dX7_loopRow_1 rfl hl (by decide) rfl (fun ls hl => ?_)
  exact J2 100000 x1 x2 0 _ _ _ _ h hW (lv_sub hl [1, 2, 3, 0] rfl)
set_option maxRecDepth 100000 in
set_option maxHeartbeats 1000000 in
theorem c_X7_rowAhead (l : Launch) (K : Kx) (a d : Nat → Nat) {M : Mem} {x1 : Int32} {x2 : Int32} {r0 : Int32} (h : f_X7_rowAhead M x1 x2 = some r0) : CMi l yX7_rowAhead cX7_rowAhead 4 (some .int) ({ frames := 2, cells := 0, slots := 0, locals := 46 } : Room) K [.ref (a 27), .int x1, .int x2] (wC K a d M) (fun _ => wC K a d M) r0 := by
  refine cs_i (by decide +kernel) (Nat.le_of_ble_eq_true rfl) ?_
  intro p e s m args below meth c A ls hF hr hk hnm hW hl
  have hx := hF.1
  have hb := hF.2.1
  have hl : lv_has ls 4 [(0, .ref (a 27)), (1, .int x1), (2, .int x2)] := hl
  obtain ⟨H, hH⟩ : ∃ z, z = s.heap := ⟨_, rfl⟩
  rw [← hH] at hW ⊢
  unfold f_X7_rowAhead at h
  refine lv_aload_n hx hb dX7_rowAhead_0 rfl (lv_at hl 0 rfl) ?_
  refine lv_iload_n hx hb dX7_rowAhead_1 rfl (lv_at hl 1 rfl) ?_
  refine lv_iload_n hx hb dX7_rowAhead_2 rfl (lv_at hl 2 rfl) ?_
  obtain ⟨r1, hc3, h⟩ := bq_some h
  refine cV_i (ci := 7) (q0 := 27) (rest := []) hF hW mw_X7_38 (c_X7_loopRow l K a d hc3) ⟨Nat.le_of_ble_eq_true rfl, Nat.le_of_ble_eq_true rfl⟩ rfl rfl (pC_27 K a d _) rfl hl.1 rfl (Nat.le_of_ble_eq_true rfl) dX7_rowAhead_3 ⟨Nat.le_of_ble_eq_true rfl, Nat.le_of_ble_eq_true rfl⟩ (fun _ H locs hW => ?_)
  refine lv_istore_n (lv' := [(3, .int r1), (0, .ref (a 27)), (1, .int x1), (2, .int x2)]) hx hb dX7_rowAhead_6 rfl hl (by decide) rfl (fun ls hl => ?_)
  refine lv_iload_n hx hb dX7_rowAhead_7 rfl (lv_at hl 0 rfl) ?_
  refine lv_aload_n hx hb dX7_rowAhead_8 rfl (lv_at hl 1 rfl) ?_
  refine lv_iload_n hx hb dX7_rowAhead_9 rfl (lv_at hl 2 rfl) ?_
  refine lv_iconst (v := 0) hx hb dX7_rowAhead_10 (by decide) ?_
  obtain ⟨r4, hc6, h⟩ := bq_some h
  refine cV_i (ci := 7) (q0 := 27) (rest := [.int r1]) hF hW mw_X7_28 (c_X7_at l K a d hc6) ⟨Nat.le_of_ble_eq_true rfl, Nat.le_of_ble_eq_true rfl⟩ rfl rfl (pC_27 K a d _) rfl hl.1 rfl (Nat.le_of_ble_eq_true rfl) dX7_rowAhead_11 ⟨Nat.le_of_ble_eq_true rfl, Nat.le_of_ble_eq_true rfl⟩ (fun _ H locs hW => ?_)
  refine lv_icmp_le (tgt := 24) hx hb dX7_rowAhead_14 (by decide) (fun q7 => ?_) (fun q7 => ?_)
  · have h := ifp q7 h
    refine lv_bipush (v := (-9)) hx hb dX7_rowAhead_24 (by decide) ?_
    obtain rfl := Option.some.inj h
    exact rt_i hF hr hk rfl (fun _ => 0) hW rfl dX7_rowAhead_26
  · have h := ifn q7 h
    refine lv_iload_n hx hb dX7_rowAhead_17 rfl (lv_at hl 0 rfl) ?_
    refine lv_bipush (v := 7) hx hb dX7_rowAhead_18 (by decide) ?_
    refine lv_isub hx hb dX7_rowAhead_20 ?_
    refine lv_goto (tgt := 26) hx hb dX7_rowAhead_21 (by decide) ?_
    obtain rfl := Option.some.inj h
    exact rt_i hF hr hk rfl (fun _ => 0) hW rfl dX7_rowAhead_26
set_option maxRecDepth 100000 in
set_option maxHeartbeats 1000000 in
theorem c_X7_openRows (l : Launch) (K : Kx) (a d : Nat → Nat) {M M0 : Mem} {x1 : Int32} {x2 : Int32} {x3 : Int32}  (h : f_X7_openRows M x1 x2 x3 = some M0) : CMv l yX7_openRows cX7_openRows 5 ({ frames := 1, cells := 0, slots := 0, locals := 60 } : Room) K [.ref (a 27), .int x1, .int x2, .int x3] (wC K a d M) (fun _ => wC K a d M0) := by
  refine cs_v (by decide +kernel) (Nat.le_of_ble_eq_true rfl) ?_
  intro p e s m args below meth c A ls hF hr hk hnm hW hl
  have hx := hF.1
  have hb := hF.2.1
  have hl : lv_has ls 5 [(0, .ref (a 27)), (1, .int x1), (2, .int x2), (3, .int x3)] := hl
  obtain ⟨H, hH⟩ : ∃ z, z = s.heap := ⟨_, rfl⟩
  rw [← hH] at hW ⊢
  unfold f_X7_openRows at h
  refine lv_aload_n hx hb dX7_openRows_0 rfl (lv_at hl 0 rfl) ?_
  refine lv_iload_n hx hb dX7_openRows_1 rfl (lv_at hl 1 rfl) ?_
  refine lv_aload_n hx hb dX7_openRows_2 rfl (lv_at hl 0 rfl) ?_
  refine g_X7_15_now hF hW dX7_openRows_3 ?_
  refine lv_iload_n hx hb dX7_openRows_6 rfl (lv_at hl 1 rfl) ?_
  obtain ⟨q1, h⟩ := ck_some h
  refine w_ild hF hW (pC_29 K a d _) q1 dX7_openRows_7 ?_
  obtain ⟨r2, hc4, h⟩ := bq_some h
  refine cV_i (ci := 7) (q0 := 27) (rest := []) hF hW mw_X7_28 (c_X7_at l K a d hc4) ⟨Nat.le_of_ble_eq_true rfl, Nat.le_of_ble_eq_true rfl⟩ rfl rfl (pC_27 K a d _) rfl hl.1 rfl (Nat.le_of_ble_eq_true rfl) dX7_openRows_8 ⟨Nat.le_of_ble_eq_true rfl, Nat.le_of_ble_eq_true rfl⟩ (fun _ H locs hW => ?_)
  refine lv_istore (lv' := [(4, .int r2), (0, .ref (a 27)), (1, .int x1), (2, .int x2), (3, .int x3)]) hx hb dX7_openRows_11 hl (by decide) rfl (fun ls hl => ?_)
  refine lv_aload_n hx hb dX7_openRows_13 rfl (lv_at hl 1 rfl) ?_
  refine g_X7_9_now hF hW dX7_openRows_14 ?_
  refine lv_iload_n hx hb dX7_openRows_17 rfl (lv_at hl 3 rfl) ?_
  refine lv_aload_n hx hb dX7_openRows_18 rfl (lv_at hl 1 rfl) ?_
  refine g_X7_9_now hF hW dX7_openRows_19 ?_
  refine lv_iload_n hx hb dX7_openRows_22 rfl (lv_at hl 3 rfl) ?_
  refine lv_iload_n hx hb dX7_openRows_23 rfl (lv_at hl 4 rfl) ?_
  refine lv_bipush (v := 7) hx hb dX7_openRows_24 (by decide) ?_
  refine lv_imul hx hb dX7_openRows_26 ?_
  refine lv_iadd hx hb dX7_openRows_27 ?_
  refine lv_iload hx hb dX7_openRows_28 (lv_at hl 0 rfl) ?_
  refine lv_iload_n hx hb dX7_openRows_30 rfl (lv_at hl 3 rfl) ?_
  refine lv_isub hx hb dX7_openRows_31 ?_
  obtain ⟨q5, h⟩ := ca_some h
  refine w_cpyi (rest := []) hF hW al_X7_18 ac_n ac_s ac_i (pC_28 K a d _) (pC_28 K a d _) q5 (vC_28 K a d _ _) hl.1 (Nat.le_of_ble_eq_true rfl) (Nat.le_of_ble_eq_true rfl) dX7_openRows_32 (fun H locs hW => ?_)
  refine lv_aload_n hx hb dX7_openRows_35 rfl (lv_at hl 1 rfl) ?_
  refine g_X7_15_now hF hW dX7_openRows_36 ?_
  refine lv_iload_n hx hb dX7_openRows_39 rfl (lv_at hl 2 rfl) ?_
  refine lv_dup2_11 hx hb dX7_openRows_40 rfl rfl ?_
  obtain ⟨q6, h⟩ := ck_some h
  refine w_ild hF hW (pC_29 K a d _) q6 dX7_openRows_41 ?_
  refine lv_iload_n hx hb dX7_openRows_42 rfl (lv_at hl 4 rfl) ?_
  refine lv_iadd hx hb dX7_openRows_43 ?_
  obtain ⟨q7, h⟩ := ck_some h
  refine w_ist hF hW (pC_29 K a d _) q7 (uC_29 K a d _ _ _) dX7_openRows_44 (fun H locs hW => ?_)
  obtain rfl := Option.some.inj h
  exact rt_v hF hr hk (fun _ => 0) hW dX7_openRows_45
set_option maxRecDepth 100000 in
set_option maxHeartbeats 1000000 in
theorem c_X7_mix (l : Launch) (K : Kx) (a d : Nat → Nat) {M : Mem} {x1 : Int64} {x3 : Int32} {r0 : Int64} (h : f_X7_mix M x1 x3 = some r0) : CMl l yX7_mix cX7_mix 7 ({ frames := 1, cells := 0, slots := 0, locals := 22 } : Room) K [.ref (a 27), .long x1, .int x3] (wC K a d M) (fun _ => wC K a d M) r0 := by
  refine cs_l (by decide +kernel) (Nat.le_of_ble_eq_true rfl) ?_
  intro p e s m args below meth c A ls hF hr hk hnm hW hl
  have hx := hF.1
  have hb := hF.2.1
  have hl : lv_has ls 7 [(0, .ref (a 27)), (1, .long x1), (3, .int x3)] := hl
  obtain ⟨H, hH⟩ : ∃ z, z = s.heap := ⟨_, rfl⟩
  rw [← hH] at hW ⊢
  have J3 : ∀ (n3 : Nat) (x1 : Int64) (x3 : Int32) (x4 : Int32) (M : Mem) (H : Heap) (locs : List Loc) (ls : Array Slot), f_X7_mix_3 n3 x1 x3 x4 M = some r0 → Wd K A s (wC K a d M) H locs → lv_has ls 7 [(0, .ref (a 27)), (1, .long x1), (3, .int x3), (4, .int x4)] → W p l e ({ frames := 1, cells := 0, slots := 0, locals := 22 } : Room) s m args below meth c H locs 0 0 (EndL K A (fun _ => wC K a d M) r0 below args s ({ frames := 1, cells := 0, slots := 0, locals := 22 } : Room)) (F0 m 3 ls []) := by
    intro n3
    induction n3 with
    | zero => intro x1 x3 x4 M H locs ls h; exact absurd h (by simp [f_X7_mix_3])
    | succ n3 ih3 =>
      have J33 : ∀ (n33 : Nat) (x1 : Int64) (x3 : Int32) (x4 : Int32) (x5 : Int32) (x6 : Int32) (M : Mem) (H : Heap) (locs : List Loc) (ls : Array Slot), f_X7_mix_33 (f_X7_mix_3 n3) n33 x1 x3 x4 x5 x6 M = some r0 → Wd K A s (wC K a d M) H locs → lv_has ls 7 [(0, .ref (a 27)), (1, .long x1), (3, .int x3), (4, .int x4), (5, .int x5), (6, .int x6)] → W p l e ({ frames := 1, cells := 0, slots := 0, locals := 22 } : Room) s m args below meth c H locs 0 0 (EndL K A (fun _ => wC K a d M) r0 below args s ({ frames := 1, cells := 0, slots := 0, locals := 22 } : Room)) (F0 m 33 ls []) := by
        intro n33
        induction n33 with
        | zero => intro x1 x3 x4 x5 x6 M H locs ls h; exact absurd h (by simp [f_X7_mix_33])
        | succ n33 ih33 =>
          intro x1 x3 x4 x5 x6 M H locs ls h hW hl
          rw [f_X7_mix_33] at h
          refine lv_iload hx hb dX7_mix_33 (lv_at hl 5 rfl) ?_
          refine lv_iload hx hb dX7_mix_35 (lv_at hl 4 rfl) ?_
          refine lv_icmp_ge (tgt := 61) hx hb dX7_mix_37 (by decide) (fun q9 => ?_) (fun q9 => ?_)
          · have h := ifp q9 h
            refine lv_iinc (v := (x4 + 1)) (lv' := [(4, .int (x4 + 1)), (0, .ref (a 27)), (1, .long x1), (3, .int x3), (5, .int x5), (6, .int x6)]) hx hb dX7_mix_61 hl (k := 3) rfl rfl (by decide) rfl (fun ls hl => ?_)
            refine lv_goto (tgt := 3) hx hb dX7_mix_64 (by decide) ?_
            exact ih3 x1 x3 (x4 + 1) _ _ _ _ h hW (lv_sub hl [1, 2, 3, 0] rfl)
          · have h := ifn q9 h
            refine lv_ldc2 hx hb hF.2.2.2.1 (hF.2.2.1 _ kl_X7_41) dX7_mix_40 ?_
            refine lv_lload_n hx hb dX7_mix_43 rfl (lv_at hl 1 rfl) ?_
            refine lv_lmul hx hb dX7_mix_44 ?_
            refine lv_aload_n hx hb dX7_mix_45 rfl (lv_at hl 0 rfl) ?_
            refine g_X7_9_now hF hW dX7_mix_46 ?_
            refine lv_iload hx hb dX7_mix_49 (lv_at hl 5 rfl) ?_
            obtain ⟨q10, h⟩ := ck_some h
            refine w_ild hF hW (pC_28 K a d _) q10 dX7_mix_51 ?_
            refine lv_i2l hx hb dX7_mix_52 rfl ?_
            refine lv_ladd hx hb dX7_mix_53 ?_
            refine lv_lstore_n (lv' := [(1, .long ((31 * x1) + (M.1 28 x6.toNatClampNeg).toInt64)), (0, .ref (a 27)), (3, .int x3), (4, .int x4), (5, .int x5), (6, .int x6)]) hx hb dX7_mix_54 rfl hl (by decide) rfl (fun ls hl => ?_)
            refine lv_iinc (v := (x6 + 1)) (lv' := [(6, .int (x6 + 1)), (1, .long ((31 * x1) + (M.1 28 x6.toNatClampNeg).toInt64)), (0, .ref (a 27)), (3, .int x3), (4, .int x4), (5, .int x5)]) hx hb dX7_mix_55 hl (k := 5) rfl rfl (by decide) rfl (fun ls hl => ?_)
            refine lv_goto (tgt := 33) hx hb dX7_mix_58 (by decide) ?_
            exact ih33 ((31 * x1) + (M.1 28 x6.toNatClampNeg).toInt64) x3 x4 x5 (x6 + 1) _ _ _ _ h hW (lv_sub hl [2, 1, 3, 4, 5, 0] rfl)
      intro x1 x3 x4 M H locs ls h hW hl
      rw [f_X7_mix_3] at h
      refine lv_iload hx hb dX7_mix_3 (lv_at hl 3 rfl) ?_
      refine lv_iload_n hx hb dX7_mix_5 rfl (lv_at hl 2 rfl) ?_
      refine lv_icmp_ge (tgt := 67) hx hb dX7_mix_6 (by decide) (fun q1 => ?_) (fun q1 => ?_)
      · have h := ifp q1 h
        refine lv_lload_n hx hb dX7_mix_67 rfl (lv_at hl 1 rfl) ?_
        obtain rfl := Option.some.inj h
        exact rt_l hF hr hk (fun _ => 0) hW rfl dX7_mix_68
      · have h := ifn q1 h
        refine lv_aload_n hx hb dX7_mix_9 rfl (lv_at hl 0 rfl) ?_
        refine lv_iload hx hb dX7_mix_10 (lv_at hl 3 rfl) ?_
        refine lv_aload_n hx hb dX7_mix_12 rfl (lv_at hl 0 rfl) ?_
        refine g_X7_15_now hF hW dX7_mix_13 ?_
        refine lv_iload hx hb dX7_mix_16 (lv_at hl 3 rfl) ?_
        obtain ⟨q2, h⟩ := ck_some h
        refine w_ild hF hW (pC_29 K a d _) q2 dX7_mix_18 ?_
        obtain ⟨r3, hc5, h⟩ := bq_some h
        refine cV_i (ci := 7) (q0 := 27) (rest := []) hF hW mw_X7_28 (c_X7_at l K a d hc5) ⟨Nat.le_of_ble_eq_true rfl, Nat.le_of_ble_eq_true rfl⟩ rfl rfl (pC_27 K a d _) rfl hl.1 rfl (Nat.le_of_ble_eq_true rfl) dX7_mix_19 ⟨Nat.le_of_ble_eq_true rfl, Nat.le_of_ble_eq_true rfl⟩ (fun _ H locs hW => ?_)
        refine lv_istore (lv' := [(5, .int r3), (0, .ref (a 27)), (1, .long x1), (3, .int x3), (4, .int x4)]) hx hb dX7_mix_22 hl (by decide) rfl (fun ls hl => ?_)
        refine lv_aload_n hx hb dX7_mix_24 rfl (lv_at hl 1 rfl) ?_
        refine lv_iload hx hb dX7_mix_25 (lv_at hl 4 rfl) ?_
        refine lv_iconst (v := 0) hx hb dX7_mix_27 (by decide) ?_
        obtain ⟨r6, hc8, h⟩ := bq_some h
        refine cV_i (ci := 7) (q0 := 27) (rest := []) hF hW mw_X7_28 (c_X7_at l K a d hc8) ⟨Nat.le_of_ble_eq_true rfl, Nat.le_of_ble_eq_true rfl⟩ rfl rfl (pC_27 K a d _) rfl hl.1 rfl (Nat.le_of_ble_eq_true rfl) dX7_mix_28 ⟨Nat.le_of_ble_eq_true rfl, Nat.le_of_ble_eq_true rfl⟩ (fun _ H locs hW => ?_)
        refine lv_istore (lv' := [(6, .int r6), (5, .int r3), (0, .ref (a 27)), (1, .long x1), (3, .int x3), (4, .int x4)]) hx hb dX7_mix_31 hl (by decide) rfl (fun ls hl => ?_)
        exact J33 100000 x1 x3 x4 r3 r6 _ _ _ _ h hW (lv_sub hl [2, 3, 4, 5, 1, 0] rfl)
  unfold f_X7_mix at h
  refine lv_iconst (v := 0) hx hb dX7_mix_0 (by decide) ?_
  refine lv_istore (lv' := [(4, .int 0), (0, .ref (a 27)), (1, .long x1), (3, .int x3)]) hx hb dX7_mix_1 hl (by decide) rfl (fun ls hl => ?_)
  exact J3 100000 x1 x3 0 _ _ _ _ h hW (lv_sub hl [1, 2, 3, 0] rfl)
set_option maxRecDepth 100000 in
set_option maxHeartbeats 1000000 in
theorem c_X8_known (l : Launch) (K : Kx) (a d : Nat → Nat) {M : Mem} {x1 : Int32} {r0 : Bool} (h : f_X8_known M x1 = some r0) : CMi l yX8_known cX8_known 2 (some .boolean) ({ frames := 0, cells := 0, slots := 0, locals := 0 } : Room) K [.ref (a 1), .int x1] (wC K a d M) (fun _ => wC K a d M) (bI r0) := by
  refine cs_i (by decide +kernel) (Nat.le_of_ble_eq_true rfl) ?_
  intro p e s m args below meth c A ls hF hr hk hnm hW hl
  have hx := hF.1
  have hb := hF.2.1
  have hl : lv_has ls 2 [(0, .ref (a 1)), (1, .int x1)] := hl
  obtain ⟨H, hH⟩ : ∃ z, z = s.heap := ⟨_, rfl⟩
  rw [← hH] at hW ⊢
  unfold f_X8_known at h
  refine lv_iload_n hx hb dX8_known_0 rfl (lv_at hl 1 rfl) ?_
  refine lv_if_lt (tgt := 16) hx hb dX8_known_1 (by decide) (fun q1 => ?_) (fun q1 => ?_)
  · have h := ifp q1 h
    refine lv_iconst (v := 0) hx hb dX8_known_16 (by decide) ?_
    obtain rfl := Option.some.inj h
    exact rt_i hF hr hk (bI_n false) (fun _ => 0) hW rfl dX8_known_17
  · have h := ifn q1 h
    refine lv_iload_n hx hb dX8_known_4 rfl (lv_at hl 1 rfl) ?_
    refine lv_aload_n hx hb dX8_known_5 rfl (lv_at hl 0 rfl) ?_
    refine g_X8_21 hF hW dX8_known_6 ?_
    refine lv_icmp_ge (tgt := 16) hx hb dX8_known_9 (by decide) (fun q2 => ?_) (fun q2 => ?_)
    · have h := ifp q2 h
      refine lv_iconst (v := 0) hx hb dX8_known_16 (by decide) ?_
      obtain rfl := Option.some.inj h
      exact rt_i hF hr hk (bI_n false) (fun _ => 0) hW rfl dX8_known_17
    · have h := ifn q2 h
      refine lv_iconst (v := 1) hx hb dX8_known_12 (by decide) ?_
      refine lv_goto (tgt := 17) hx hb dX8_known_13 (by decide) ?_
      obtain rfl := Option.some.inj h
      exact rt_i hF hr hk (bI_n true) (fun _ => 0) hW rfl dX8_known_17
set_option maxRecDepth 100000 in
set_option maxHeartbeats 1000000 in
theorem c_X8_keepDraft (l : Launch) (K : Kx) (a d : Nat → Nat) {M M0 : Mem}  {r0 : Int32} (h : f_X8_keepDraft M = some (r0, M0)) : CMi l yX8_keepDraft cX8_keepDraft 1 (some .int) ({ frames := 1, cells := 0, slots := 0, locals := 60 } : Room) K [.ref (a 1)] (wC K a d M) (fun _ => wC K a d M0) r0 := by
  refine cs_i (by decide +kernel) (Nat.le_of_ble_eq_true rfl) ?_
  intro p e s m args below meth c A ls hF hr hk hnm hW hl
  have hx := hF.1
  have hb := hF.2.1
  have hl : lv_has ls 1 [(0, .ref (a 1))] := hl
  obtain ⟨H, hH⟩ : ∃ z, z = s.heap := ⟨_, rfl⟩
  rw [← hH] at hW ⊢
  unfold f_X8_keepDraft at h
  refine lv_aload_n hx hb dX8_keepDraft_0 rfl (lv_at hl 0 rfl) ?_
  refine g_X8_15 hF hW dX8_keepDraft_1 ?_
  refine lv_iconst (v := 0) hx hb dX8_keepDraft_4 (by decide) ?_
  refine lv_aload_n hx hb dX8_keepDraft_5 rfl (lv_at hl 0 rfl) ?_
  refine g_X8_18 hF hW dX8_keepDraft_6 ?_
  refine lv_aload_n hx hb dX8_keepDraft_9 rfl (lv_at hl 0 rfl) ?_
  refine g_X8_21 hF hW dX8_keepDraft_10 ?_
  refine lv_bipush (v := 8) hx hb dX8_keepDraft_13 (by decide) ?_
  refine lv_imul hx hb dX8_keepDraft_15 ?_
  refine lv_bipush (v := 8) hx hb dX8_keepDraft_16 (by decide) ?_
  obtain ⟨q1, h⟩ := ca_some h
  refine w_cpyi (rest := []) hF hW al_X8_25 ac_n ac_s ac_i (pC_3 K a d _) (pC_4 K a d _) q1 (vC_4 K a d _ _) hl.1 (Nat.le_of_ble_eq_true rfl) (Nat.le_of_ble_eq_true rfl) dX8_keepDraft_18 (fun H locs hW => ?_)
  refine lv_aload_n hx hb dX8_keepDraft_21 rfl (lv_at hl 0 rfl) ?_
  refine g_X8_15 hF hW dX8_keepDraft_22 ?_
  refine lv_iconst (v := 0) hx hb dX8_keepDraft_25 (by decide) ?_
  refine cS_v (rest := []) hF hW mw_X8_31 (c_fillI_a l K (pC_3 K a d _) (by decide)) ⟨Nat.le_of_ble_eq_true rfl, Nat.le_of_ble_eq_true rfl⟩ rfl hl.1 rfl (Nat.le_of_ble_eq_true rfl) dX8_keepDraft_26 ⟨Nat.le_of_ble_eq_true rfl, Nat.le_of_ble_eq_true rfl⟩ (fun _ H locs hW => ?_)
  have hW : Wd K A s (wC K a d (fI (yI M 3 (0 : Int32).toNatClampNeg 4 ((M.1 105 0) * 8).toNatClampNeg (8 : Int32).toNatClampNeg) 3 0 8 0)) H locs := hW
  refine lv_aload_n hx hb dX8_keepDraft_29 rfl (lv_at hl 0 rfl) ?_
  refine lv_dup hx hb dX8_keepDraft_30 rfl ?_
  refine g_X8_21 hF hW dX8_keepDraft_31 ?_
  refine lv_iconst (v := 1) hx hb dX8_keepDraft_34 (by decide) ?_
  refine lv_iadd hx hb dX8_keepDraft_35 ?_
  refine s_X8_21 (x := (((fI (yI M 3 (0 : Int32).toNatClampNeg 4 ((M.1 105 0) * 8).toNatClampNeg (8 : Int32).toNatClampNeg) 3 0 8 0).1 105 0) + 1)) hF hW dX8_keepDraft_36 (fun H locs hW => ?_)
  refine lv_aload_n hx hb dX8_keepDraft_39 rfl (lv_at hl 0 rfl) ?_
  refine g_X8_21 hF hW dX8_keepDraft_40 ?_
  refine lv_iconst (v := 1) hx hb dX8_keepDraft_43 (by decide) ?_
  refine lv_isub hx hb dX8_keepDraft_44 ?_
  obtain ⟨rfl, rfl⟩ := Prod.mk.inj (Option.some.inj h)
  exact rt_i hF hr hk rfl (fun _ => 0) hW rfl dX8_keepDraft_45
set_option maxRecDepth 100000 in
set_option maxHeartbeats 1000000 in
theorem c_X8_fits (l : Launch) (K : Kx) (a d : Nat → Nat) {M : Mem} {x1 : Int32} {x2 : Int32} {r0 : Bool} (h : f_X8_fits M x1 x2 = some r0) : CMi l yX8_fits cX8_fits 5 (some .boolean) ({ frames := 1, cells := 0, slots := 0, locals := 21 } : Room) K [.ref (a 1), .int x1, .int x2] (wC K a d M) (fun _ => wC K a d M) (bI r0) := by
  refine cs_i (by decide +kernel) (Nat.le_of_ble_eq_true rfl) ?_
  intro p e s m args below meth c A ls hF hr hk hnm hW hl
  have hx := hF.1
  have hb := hF.2.1
  have hl : lv_has ls 5 [(0, .ref (a 1)), (1, .int x1), (2, .int x2)] := hl
  obtain ⟨H, hH⟩ : ∃ z, z = s.heap := ⟨_, rfl⟩
  rw [← hH] at hW ⊢
  have J23 : ∀ (n23 : Nat) (x3 : Int32) (x4 : Int32) (M : Mem) (H : Heap) (locs : List Loc) (ls : Array Slot), f_X8_fits_23 n23 x3 x4 M = some r0 → Wd K A s (wC K a d M) H locs → lv_has ls 5 [(0, .ref (a 1)), (3, .int x3), (4, .int x4)] → W p l e ({ frames := 1, cells := 0, slots := 0, locals := 21 } : Room) s m args below meth c H locs 0 0 (EndI K A (fun _ => wC K a d M) (bI r0) below args s ({ frames := 1, cells := 0, slots := 0, locals := 21 } : Room)) (F0 m 23 ls []) := by
    intro n23
    induction n23 with
    | zero => intro x3 x4 M H locs ls h; exact absurd h (by simp [f_X8_fits_23])
    | succ n23 ih23 =>
      intro x3 x4 M H locs ls h hW hl
      rw [f_X8_fits_23] at h
      refine lv_iload hx hb dX8_fits_23 (lv_at hl 2 rfl) ?_
      refine lv_iconst (v := 4) hx hb dX8_fits_25 (by decide) ?_
      refine lv_icmp_ge (tgt := 49) hx hb dX8_fits_26 (by decide) (fun q5 => ?_) (fun q5 => ?_)
      · have h := ifp q5 h
        refine lv_iconst (v := 1) hx hb dX8_fits_49 (by decide) ?_
        obtain rfl := Option.some.inj h
        exact rt_i hF hr hk (bI_n true) (fun _ => 0) hW rfl dX8_fits_50
      · have h := ifn q5 h
        refine lv_aload_n hx hb dX8_fits_29 rfl (lv_at hl 0 rfl) ?_
        refine g_X8_18 hF hW dX8_fits_30 ?_
        refine lv_iload_n hx hb dX8_fits_33 rfl (lv_at hl 1 rfl) ?_
        refine lv_iload hx hb dX8_fits_34 (lv_at hl 2 rfl) ?_
        refine lv_iadd hx hb dX8_fits_36 ?_
        obtain ⟨q6, h⟩ := ck_some h
        refine w_ild hF hW (pC_4 K a d _) q6 dX8_fits_37 ?_
        refine lv_if_eq (tgt := 43) hx hb dX8_fits_38 (by decide) (fun q7 => ?_) (fun q7 => ?_)
        · have h := ifp q7 h
          refine lv_iinc (v := (x4 + 1)) (lv' := [(4, .int (x4 + 1)), (0, .ref (a 1)), (3, .int x3)]) hx hb dX8_fits_43 hl (k := 2) rfl rfl (by decide) rfl (fun ls hl => ?_)
          refine lv_goto (tgt := 23) hx hb dX8_fits_46 (by decide) ?_
          exact ih23 x3 (x4 + 1) _ _ _ _ h hW (lv_sub hl [1, 2, 0] rfl)
        · have h := ifn q7 h
          refine lv_iconst (v := 0) hx hb dX8_fits_41 (by decide) ?_
          obtain rfl := Option.some.inj h
          exact rt_i hF hr hk (bI_n false) (fun _ => 0) hW rfl dX8_fits_42
  unfold f_X8_fits at h
  refine lv_aload_n hx hb dX8_fits_0 rfl (lv_at hl 0 rfl) ?_
  refine lv_iload_n hx hb dX8_fits_1 rfl (lv_at hl 1 rfl) ?_
  obtain ⟨r1, hc3, h⟩ := bq_some h
  refine cV_i (ci := 8) (q0 := 1) (rest := []) hF hW mw_X8_37 (c_X8_known l K a d hc3) ⟨Nat.le_of_ble_eq_true rfl, Nat.le_of_ble_eq_true rfl⟩ rfl rfl (pC_1 K a d _) rfl hl.1 rfl (Nat.le_of_ble_eq_true rfl) dX8_fits_2 ⟨Nat.le_of_ble_eq_true rfl, Nat.le_of_ble_eq_true rfl⟩ (fun _ H locs hW => ?_)
  refine lz_ne (tgt := 10) hx hb dX8_fits_5 (by decide) (fun q4 => ?_) (fun q4 => ?_)
  · have h := ifp q4 h
    refine lv_iload_n hx hb dX8_fits_10 rfl (lv_at hl 1 rfl) ?_
    refine lv_bipush (v := 8) hx hb dX8_fits_11 (by decide) ?_
    refine lv_imul hx hb dX8_fits_13 ?_
    refine lv_bipush (v := 8) hx hb dX8_fits_14 (by decide) ?_
    refine lv_iadd hx hb dX8_fits_16 ?_
    refine lv_iconst (v := 4) hx hb dX8_fits_17 (by decide) ?_
    refine lv_isub hx hb dX8_fits_18 ?_
    refine lv_istore_n (lv' := [(3, .int (((x1 * 8) + 8) - 4)), (0, .ref (a 1)), (1, .int x1), (2, .int x2)]) hx hb dX8_fits_19 rfl hl (by decide) rfl (fun ls hl => ?_)
    refine lv_iload_n hx hb dX8_fits_20 rfl (lv_at hl 3 rfl) ?_
    refine lv_istore (lv' := [(4, .int x2), (3, .int (((x1 * 8) + 8) - 4)), (0, .ref (a 1)), (1, .int x1), (2, .int x2)]) hx hb dX8_fits_21 hl (by decide) rfl (fun ls hl => ?_)
    exact J23 100000 (((x1 * 8) + 8) - 4) x2 _ _ _ _ h hW (lv_sub hl [2, 1, 0] rfl)
  · have h := ifn q4 h
    refine lv_iconst (v := 0) hx hb dX8_fits_8 (by decide) ?_
    obtain rfl := Option.some.inj h
    exact rt_i hF hr hk (bI_n false) (fun _ => 0) hW rfl dX8_fits_9
set_option maxRecDepth 100000 in
set_option maxHeartbeats 1000000 in
theorem c_X8_reckon_h (l : Launch) (K : Kx) (a d : Nat → Nat) {M : Mem} {x1 : Int32} {x3 : Int32} {r0 : Int64} (h : f_X8_reckon_h M x1 x3 = some r0) : CMl l yX8_reckon cX8_reckon 8 ({ frames := 0, cells := 0, slots := 0, locals := 0 } : Room) K [.ref (a 1), .int x1, .ref (a 37), .int x3] (wC K a d M) (fun _ => wC K a d M) r0 := by
  refine cs_l (by decide +kernel) (Nat.le_of_ble_eq_true rfl) ?_
  intro p e s m args below meth c A ls hF hr hk hnm hW hl
  have hx := hF.1
  have hb := hF.2.1
  have hl : lv_has ls 8 [(0, .ref (a 1)), (1, .int x1), (2, .ref (a 37)), (3, .int x3)] := hl
  obtain ⟨H, hH⟩ : ∃ z, z = s.heap := ⟨_, rfl⟩
  rw [← hH] at hW ⊢
  have J19 : ∀ (n19 : Nat) (x3 : Int32) (x4 : Int32) (x5 : Int64) (x7 : Int32) (M : Mem) (H : Heap) (locs : List Loc) (ls : Array Slot), f_X8_reckon_h_19 n19 x3 x4 x5 x7 M = some r0 → Wd K A s (wC K a d M) H locs → lv_has ls 8 [(0, .ref (a 1)), (2, .ref (a 37)), (3, .int x3), (4, .int x4), (5, .long x5), (7, .int x7)] → W p l e ({ frames := 0, cells := 0, slots := 0, locals := 0 } : Room) s m args below meth c H locs 0 0 (EndL K A (fun _ => wC K a d M) r0 below args s ({ frames := 0, cells := 0, slots := 0, locals := 0 } : Room)) (F0 m 19 ls []) := by
    intro n19
    induction n19 with
    | zero => intro x3 x4 x5 x7 M H locs ls h; exact absurd h (by simp [f_X8_reckon_h_19])
    | succ n19 ih19 =>
      have J61 : ∀ (n61 : Nat) (x3 : Int32) (x4 : Int32) (x5 : Int64) (x7 : Int32) (M : Mem) (H : Heap) (locs : List Loc) (ls : Array Slot), f_X8_reckon_h_61 n61 x3 x4 x5 x7 M = some r0 → Wd K A s (wC K a d M) H locs → lv_has ls 8 [(0, .ref (a 1)), (2, .ref (a 37)), (3, .int x3), (4, .int x4), (5, .long x5), (7, .int x7)] → W p l e ({ frames := 0, cells := 0, slots := 0, locals := 0 } : Room) s m args below meth c H locs 0 0 (EndL K A (fun _ => wC K a d M) r0 below args s ({ frames := 0, cells := 0, slots := 0, locals := 0 } : Room)) (F0 m 61 ls []) := by
        intro n61
        induction n61 with
        | zero => intro x3 x4 x5 x7 M H locs ls h; exact absurd h (by simp [f_X8_reckon_h_61])
        | succ n61 ih61 =>
          intro x3 x4 x5 x7 M H locs ls h hW hl
          rw [f_X8_reckon_h_61] at h
          refine lv_iload hx hb dX8_reckon_61 (lv_at hl 5 rfl) ?_
          refine lv_iconst (v := 4) hx hb dX8_reckon_63 (by decide) ?_
          refine lv_icmp_ge (tgt := 100) hx hb dX8_reckon_64 (by decide) (fun q5 => ?_) (fun q5 => ?_)
          · have h := ifp q5 h
            refine lv_lload hx hb dX8_reckon_100 (lv_at hl 4 rfl) ?_
            obtain rfl := Option.some.inj h
            exact rt_l hF hr hk (fun _ => 0) hW rfl dX8_reckon_102
          · have h := ifn q5 h
            refine lv_lload hx hb dX8_reckon_67 (lv_at hl 4 rfl) ?_
            refine lv_aload_n hx hb dX8_reckon_69 rfl (lv_at hl 0 rfl) ?_
            refine g_X8_18 hF hW dX8_reckon_70 ?_
            refine lv_iload hx hb dX8_reckon_73 (lv_at hl 3 rfl) ?_
            refine lv_iconst (v := 1) hx hb dX8_reckon_75 (by decide) ?_
            refine lv_iadd hx hb dX8_reckon_76 ?_
            refine lv_iconst (v := 3) hx hb dX8_reckon_77 (by decide) ?_
            refine lv_iadd hx hb dX8_reckon_78 ?_
            refine lv_iload hx hb dX8_reckon_79 (lv_at hl 5 rfl) ?_
            refine lv_iadd hx hb dX8_reckon_81 ?_
            obtain ⟨q6, h⟩ := ck_some h
            refine w_ild hF hW (pC_4 K a d _) q6 dX8_reckon_82 ?_
            refine lv_i2l hx hb dX8_reckon_83 rfl ?_
            refine lv_aload_n hx hb dX8_reckon_84 rfl (lv_at hl 1 rfl) ?_
            refine lv_iload_n hx hb dX8_reckon_85 rfl (lv_at hl 2 rfl) ?_
            refine lv_iload hx hb dX8_reckon_86 (lv_at hl 5 rfl) ?_
            refine lv_iadd hx hb dX8_reckon_88 ?_
            obtain ⟨q7, h⟩ := ck_some h
            refine w_lld hF hW (pC_37 K a d _) q7 dX8_reckon_89 ?_
            refine lv_lmul hx hb dX8_reckon_90 ?_
            refine lv_ladd hx hb dX8_reckon_91 ?_
            refine lv_lstore (lv' := [(5, .long (x5 + ((M.1 4 (((x4 + 1) + 3) + x7).toNatClampNeg).toInt64 * (M.2.1 37 (x3 + x7).toNatClampNeg)))), (0, .ref (a 1)), (2, .ref (a 37)), (3, .int x3), (4, .int x4), (7, .int x7)]) hx hb dX8_reckon_92 hl (by decide) rfl (fun ls hl => ?_)
            refine lv_iinc (v := (x7 + 1)) (lv' := [(7, .int (x7 + 1)), (5, .long (x5 + ((M.1 4 (((x4 + 1) + 3) + x7).toNatClampNeg).toInt64 * (M.2.1 37 (x3 + x7).toNatClampNeg)))), (0, .ref (a 1)), (2, .ref (a 37)), (3, .int x3), (4, .int x4)]) hx hb dX8_reckon_94 hl (k := 5) rfl rfl (by decide) rfl (fun ls hl => ?_)
            refine lv_goto (tgt := 61) hx hb dX8_reckon_97 (by decide) ?_
            exact ih61 x3 x4 (x5 + ((M.1 4 (((x4 + 1) + 3) + x7).toNatClampNeg).toInt64 * (M.2.1 37 (x3 + x7).toNatClampNeg))) (x7 + 1) _ _ _ _ h hW (lv_sub hl [2, 3, 4, 5, 1, 0] rfl)
      intro x3 x4 x5 x7 M H locs ls h hW hl
      rw [f_X8_reckon_h_19] at h
      refine lv_iload hx hb dX8_reckon_19 (lv_at hl 5 rfl) ?_
      refine lv_iconst (v := 3) hx hb dX8_reckon_21 (by decide) ?_
      refine lv_icmp_ge (tgt := 58) hx hb dX8_reckon_22 (by decide) (fun q2 => ?_) (fun q2 => ?_)
      · have h := ifp q2 h
        refine lv_iconst (v := 0) hx hb dX8_reckon_58 (by decide) ?_
        refine lv_istore (lv' := [(7, .int 0), (0, .ref (a 1)), (2, .ref (a 37)), (3, .int x3), (4, .int x4), (5, .long x5)]) hx hb dX8_reckon_59 hl (by decide) rfl (fun ls hl => ?_)
        exact J61 100000 x3 x4 x5 0 _ _ _ _ h hW (lv_sub hl [1, 2, 3, 4, 5, 0] rfl)
      · have h := ifn q2 h
        refine lv_lload hx hb dX8_reckon_25 (lv_at hl 4 rfl) ?_
        refine lv_aload_n hx hb dX8_reckon_27 rfl (lv_at hl 0 rfl) ?_
        refine g_X8_18 hF hW dX8_reckon_28 ?_
        refine lv_iload hx hb dX8_reckon_31 (lv_at hl 3 rfl) ?_
        refine lv_iconst (v := 1) hx hb dX8_reckon_33 (by decide) ?_
        refine lv_iadd hx hb dX8_reckon_34 ?_
        refine lv_iload hx hb dX8_reckon_35 (lv_at hl 5 rfl) ?_
        refine lv_iadd hx hb dX8_reckon_37 ?_
        obtain ⟨q3, h⟩ := ck_some h
        refine w_ild hF hW (pC_4 K a d _) q3 dX8_reckon_38 ?_
        refine lv_i2l hx hb dX8_reckon_39 rfl ?_
        refine lv_aload_n hx hb dX8_reckon_40 rfl (lv_at hl 0 rfl) ?_
        refine g_X8_9 hF hW dX8_reckon_41 ?_
        refine lv_iload hx hb dX8_reckon_44 (lv_at hl 5 rfl) ?_
        obtain ⟨q4, h⟩ := ck_some h
        refine w_ild hF hW (pC_2 K a d _) q4 dX8_reckon_46 ?_
        refine lv_i2l hx hb dX8_reckon_47 rfl ?_
        refine lv_lmul hx hb dX8_reckon_48 ?_
        refine lv_ladd hx hb dX8_reckon_49 ?_
        refine lv_lstore (lv' := [(5, .long (x5 + ((M.1 4 ((x4 + 1) + x7).toNatClampNeg).toInt64 * (M.1 2 x7.toNatClampNeg).toInt64))), (0, .ref (a 1)), (2, .ref (a 37)), (3, .int x3), (4, .int x4), (7, .int x7)]) hx hb dX8_reckon_50 hl (by decide) rfl (fun ls hl => ?_)
        refine lv_iinc (v := (x7 + 1)) (lv' := [(7, .int (x7 + 1)), (5, .long (x5 + ((M.1 4 ((x4 + 1) + x7).toNatClampNeg).toInt64 * (M.1 2 x7.toNatClampNeg).toInt64))), (0, .ref (a 1)), (2, .ref (a 37)), (3, .int x3), (4, .int x4)]) hx hb dX8_reckon_52 hl (k := 5) rfl rfl (by decide) rfl (fun ls hl => ?_)
        refine lv_goto (tgt := 19) hx hb dX8_reckon_55 (by decide) ?_
        exact ih19 x3 x4 (x5 + ((M.1 4 ((x4 + 1) + x7).toNatClampNeg).toInt64 * (M.1 2 x7.toNatClampNeg).toInt64)) (x7 + 1) _ _ _ _ h hW (lv_sub hl [2, 3, 4, 5, 1, 0] rfl)
  unfold f_X8_reckon_h at h
  refine lv_iload_n hx hb dX8_reckon_0 rfl (lv_at hl 1 rfl) ?_
  refine lv_bipush (v := 8) hx hb dX8_reckon_1 (by decide) ?_
  refine lv_imul hx hb dX8_reckon_3 ?_
  refine lv_istore (lv' := [(4, .int (x1 * 8)), (0, .ref (a 1)), (1, .int x1), (2, .ref (a 37)), (3, .int x3)]) hx hb dX8_reckon_4 hl (by decide) rfl (fun ls hl => ?_)
  refine lv_aload_n hx hb dX8_reckon_6 rfl (lv_at hl 1 rfl) ?_
  refine g_X8_18 hF hW dX8_reckon_7 ?_
  refine lv_iload hx hb dX8_reckon_10 (lv_at hl 0 rfl) ?_
  obtain ⟨q1, h⟩ := ck_some h
  refine w_ild hF hW (pC_4 K a d _) q1 dX8_reckon_12 ?_
  refine lv_i2l hx hb dX8_reckon_13 rfl ?_
  refine lv_lstore (lv' := [(5, .long (M.1 4 (x1 * 8).toNatClampNeg).toInt64), (4, .int (x1 * 8)), (0, .ref (a 1)), (1, .int x1), (2, .ref (a 37)), (3, .int x3)]) hx hb dX8_reckon_14 hl (by decide) rfl (fun ls hl => ?_)
  refine lv_iconst (v := 0) hx hb dX8_reckon_16 (by decide) ?_
  refine lv_istore (lv' := [(7, .int 0), (5, .long (M.1 4 (x1 * 8).toNatClampNeg).toInt64), (4, .int (x1 * 8)), (0, .ref (a 1)), (1, .int x1), (2, .ref (a 37)), (3, .int x3)]) hx hb dX8_reckon_17 hl (by decide) rfl (fun ls hl => ?_)
  exact J19 100000 x3 (x1 * 8) (M.1 4 (x1 * 8).toNatClampNeg).toInt64 0 _ _ _ _ h hW (lv_sub hl [3, 5, 6, 2, 1, 0] rfl)
set_option maxRecDepth 100000 in
set_option maxHeartbeats 1000000 in
theorem c_X8_reckon_l (l : Launch) (K : Kx) (a d : Nat → Nat) {M : Mem} {x1 : Int32} {x3 : Int32} {r0 : Int64} (h : f_X8_reckon_l M x1 x3 = some r0) : CMl l yX8_reckon cX8_reckon 8 ({ frames := 0, cells := 0, slots := 0, locals := 0 } : Room) K [.ref (a 1), .int x1, .ref (a 36), .int x3] (wC K a d M) (fun _ => wC K a d M) r0 := by
  refine cs_l (by decide +kernel) (Nat.le_of_ble_eq_true rfl) ?_
  intro p e s m args below meth c A ls hF hr hk hnm hW hl
  have hx := hF.1
  have hb := hF.2.1
  have hl : lv_has ls 8 [(0, .ref (a 1)), (1, .int x1), (2, .ref (a 36)), (3, .int x3)] := hl
  obtain ⟨H, hH⟩ : ∃ z, z = s.heap := ⟨_, rfl⟩
  rw [← hH] at hW ⊢
  have J19 : ∀ (n19 : Nat) (x3 : Int32) (x4 : Int32) (x5 : Int64) (x7 : Int32) (M : Mem) (H : Heap) (locs : List Loc) (ls : Array Slot), f_X8_reckon_l_19 n19 x3 x4 x5 x7 M = some r0 → Wd K A s (wC K a d M) H locs → lv_has ls 8 [(0, .ref (a 1)), (2, .ref (a 36)), (3, .int x3), (4, .int x4), (5, .long x5), (7, .int x7)] → W p l e ({ frames := 0, cells := 0, slots := 0, locals := 0 } : Room) s m args below meth c H locs 0 0 (EndL K A (fun _ => wC K a d M) r0 below args s ({ frames := 0, cells := 0, slots := 0, locals := 0 } : Room)) (F0 m 19 ls []) := by
    intro n19
    induction n19 with
    | zero => intro x3 x4 x5 x7 M H locs ls h; exact absurd h (by simp [f_X8_reckon_l_19])
    | succ n19 ih19 =>
      have J61 : ∀ (n61 : Nat) (x3 : Int32) (x4 : Int32) (x5 : Int64) (x7 : Int32) (M : Mem) (H : Heap) (locs : List Loc) (ls : Array Slot), f_X8_reckon_l_61 n61 x3 x4 x5 x7 M = some r0 → Wd K A s (wC K a d M) H locs → lv_has ls 8 [(0, .ref (a 1)), (2, .ref (a 36)), (3, .int x3), (4, .int x4), (5, .long x5), (7, .int x7)] → W p l e ({ frames := 0, cells := 0, slots := 0, locals := 0 } : Room) s m args below meth c H locs 0 0 (EndL K A (fun _ => wC K a d M) r0 below args s ({ frames := 0, cells := 0, slots := 0, locals := 0 } : Room)) (F0 m 61 ls []) := by
        intro n61
        induction n61 with
        | zero => intro x3 x4 x5 x7 M H locs ls h; exact absurd h (by simp [f_X8_reckon_l_61])
        | succ n61 ih61 =>
          intro x3 x4 x5 x7 M H locs ls h hW hl
          rw [f_X8_reckon_l_61] at h
          refine lv_iload hx hb dX8_reckon_61 (lv_at hl 5 rfl) ?_
          refine lv_iconst (v := 4) hx hb dX8_reckon_63 (by decide) ?_
          refine lv_icmp_ge (tgt := 100) hx hb dX8_reckon_64 (by decide) (fun q5 => ?_) (fun q5 => ?_)
          · have h := ifp q5 h
            refine lv_lload hx hb dX8_reckon_100 (lv_at hl 4 rfl) ?_
            obtain rfl := Option.some.inj h
            exact rt_l hF hr hk (fun _ => 0) hW rfl dX8_reckon_102
          · have h := ifn q5 h
            refine lv_lload hx hb dX8_reckon_67 (lv_at hl 4 rfl) ?_
            refine lv_aload_n hx hb dX8_reckon_69 rfl (lv_at hl 0 rfl) ?_
            refine g_X8_18 hF hW dX8_reckon_70 ?_
            refine lv_iload hx hb dX8_reckon_73 (lv_at hl 3 rfl) ?_
            refine lv_iconst (v := 1) hx hb dX8_reckon_75 (by decide) ?_
            refine lv_iadd hx hb dX8_reckon_76 ?_
            refine lv_iconst (v := 3) hx hb dX8_reckon_77 (by decide) ?_
            refine lv_iadd hx hb dX8_reckon_78 ?_
            refine lv_iload hx hb dX8_reckon_79 (lv_at hl 5 rfl) ?_
            refine lv_iadd hx hb dX8_reckon_81 ?_
            obtain ⟨q6, h⟩ := ck_some h
            refine w_ild hF hW (pC_4 K a d _) q6 dX8_reckon_82 ?_
            refine lv_i2l hx hb dX8_reckon_83 rfl ?_
            refine lv_aload_n hx hb dX8_reckon_84 rfl (lv_at hl 1 rfl) ?_
            refine lv_iload_n hx hb dX8_reckon_85 rfl (lv_at hl 2 rfl) ?_
            refine lv_iload hx hb dX8_reckon_86 (lv_at hl 5 rfl) ?_
            refine lv_iadd hx hb dX8_reckon_88 ?_
            obtain ⟨q7, h⟩ := ck_some h
            refine w_lld hF hW (pC_36 K a d _) q7 dX8_reckon_89 ?_
            refine lv_lmul hx hb dX8_reckon_90 ?_
            refine lv_ladd hx hb dX8_reckon_91 ?_
            refine lv_lstore (lv' := [(5, .long (x5 + ((M.1 4 (((x4 + 1) + 3) + x7).toNatClampNeg).toInt64 * (M.2.1 36 (x3 + x7).toNatClampNeg)))), (0, .ref (a 1)), (2, .ref (a 36)), (3, .int x3), (4, .int x4), (7, .int x7)]) hx hb dX8_reckon_92 hl (by decide) rfl (fun ls hl => ?_)
            refine lv_iinc (v := (x7 + 1)) (lv' := [(7, .int (x7 + 1)), (5, .long (x5 + ((M.1 4 (((x4 + 1) + 3) + x7).toNatClampNeg).toInt64 * (M.2.1 36 (x3 + x7).toNatClampNeg)))), (0, .ref (a 1)), (2, .ref (a 36)), (3, .int x3), (4, .int x4)]) hx hb dX8_reckon_94 hl (k := 5) rfl rfl (by decide) rfl (fun ls hl => ?_)
            refine lv_goto (tgt := 61) hx hb dX8_reckon_97 (by decide) ?_
            exact ih61 x3 x4 (x5 + ((M.1 4 (((x4 + 1) + 3) + x7).toNatClampNeg).toInt64 * (M.2.1 36 (x3 + x7).toNatClampNeg))) (x7 + 1) _ _ _ _ h hW (lv_sub hl [2, 3, 4, 5, 1, 0] rfl)
      intro x3 x4 x5 x7 M H locs ls h hW hl
      rw [f_X8_reckon_l_19] at h
      refine lv_iload hx hb dX8_reckon_19 (lv_at hl 5 rfl) ?_
      refine lv_iconst (v := 3) hx hb dX8_reckon_21 (by decide) ?_
      refine lv_icmp_ge (tgt := 58) hx hb dX8_reckon_22 (by decide) (fun q2 => ?_) (fun q2 => ?_)
      · have h := ifp q2 h
        refine lv_iconst (v := 0) hx hb dX8_reckon_58 (by decide) ?_
        refine lv_istore (lv' := [(7, .int 0), (0, .ref (a 1)), (2, .ref (a 36)), (3, .int x3), (4, .int x4), (5, .long x5)]) hx hb dX8_reckon_59 hl (by decide) rfl (fun ls hl => ?_)
        exact J61 100000 x3 x4 x5 0 _ _ _ _ h hW (lv_sub hl [1, 2, 3, 4, 5, 0] rfl)
      · have h := ifn q2 h
        refine lv_lload hx hb dX8_reckon_25 (lv_at hl 4 rfl) ?_
        refine lv_aload_n hx hb dX8_reckon_27 rfl (lv_at hl 0 rfl) ?_
        refine g_X8_18 hF hW dX8_reckon_28 ?_
        refine lv_iload hx hb dX8_reckon_31 (lv_at hl 3 rfl) ?_
        refine lv_iconst (v := 1) hx hb dX8_reckon_33 (by decide) ?_
        refine lv_iadd hx hb dX8_reckon_34 ?_
        refine lv_iload hx hb dX8_reckon_35 (lv_at hl 5 rfl) ?_
        refine lv_iadd hx hb dX8_reckon_37 ?_
        obtain ⟨q3, h⟩ := ck_some h
        refine w_ild hF hW (pC_4 K a d _) q3 dX8_reckon_38 ?_
        refine lv_i2l hx hb dX8_reckon_39 rfl ?_
        refine lv_aload_n hx hb dX8_reckon_40 rfl (lv_at hl 0 rfl) ?_
        refine g_X8_9 hF hW dX8_reckon_41 ?_
        refine lv_iload hx hb dX8_reckon_44 (lv_at hl 5 rfl) ?_
        obtain ⟨q4, h⟩ := ck_some h
        refine w_ild hF hW (pC_2 K a d _) q4 dX8_reckon_46 ?_
        refine lv_i2l hx hb dX8_reckon_47 rfl ?_
        refine lv_lmul hx hb dX8_reckon_48 ?_
        refine lv_ladd hx hb dX8_reckon_49 ?_
        refine lv_lstore (lv' := [(5, .long (x5 + ((M.1 4 ((x4 + 1) + x7).toNatClampNeg).toInt64 * (M.1 2 x7.toNatClampNeg).toInt64))), (0, .ref (a 1)), (2, .ref (a 36)), (3, .int x3), (4, .int x4), (7, .int x7)]) hx hb dX8_reckon_50 hl (by decide) rfl (fun ls hl => ?_)
        refine lv_iinc (v := (x7 + 1)) (lv' := [(7, .int (x7 + 1)), (5, .long (x5 + ((M.1 4 ((x4 + 1) + x7).toNatClampNeg).toInt64 * (M.1 2 x7.toNatClampNeg).toInt64))), (0, .ref (a 1)), (2, .ref (a 36)), (3, .int x3), (4, .int x4)]) hx hb dX8_reckon_52 hl (k := 5) rfl rfl (by decide) rfl (fun ls hl => ?_)
        refine lv_goto (tgt := 19) hx hb dX8_reckon_55 (by decide) ?_
        exact ih19 x3 x4 (x5 + ((M.1 4 ((x4 + 1) + x7).toNatClampNeg).toInt64 * (M.1 2 x7.toNatClampNeg).toInt64)) (x7 + 1) _ _ _ _ h hW (lv_sub hl [2, 3, 4, 5, 1, 0] rfl)
  unfold f_X8_reckon_l at h
  refine lv_iload_n hx hb dX8_reckon_0 rfl (lv_at hl 1 rfl) ?_
  refine lv_bipush (v := 8) hx hb dX8_reckon_1 (by decide) ?_
  refine lv_imul hx hb dX8_reckon_3 ?_
  refine lv_istore (lv' := [(4, .int (x1 * 8)), (0, .ref (a 1)), (1, .int x1), (2, .ref (a 36)), (3, .int x3)]) hx hb dX8_reckon_4 hl (by decide) rfl (fun ls hl => ?_)
  refine lv_aload_n hx hb dX8_reckon_6 rfl (lv_at hl 1 rfl) ?_
  refine g_X8_18 hF hW dX8_reckon_7 ?_
  refine lv_iload hx hb dX8_reckon_10 (lv_at hl 0 rfl) ?_
  obtain ⟨q1, h⟩ := ck_some h
  refine w_ild hF hW (pC_4 K a d _) q1 dX8_reckon_12 ?_
  refine lv_i2l hx hb dX8_reckon_13 rfl ?_
  refine lv_lstore (lv' := [(5, .long (M.1 4 (x1 * 8).toNatClampNeg).toInt64), (4, .int (x1 * 8)), (0, .ref (a 1)), (1, .int x1), (2, .ref (a 36)), (3, .int x3)]) hx hb dX8_reckon_14 hl (by decide) rfl (fun ls hl => ?_)
  refine lv_iconst (v := 0) hx hb dX8_reckon_16 (by decide) ?_
  refine lv_istore (lv' := [(7, .int 0), (5, .long (M.1 4 (x1 * 8).toNatClampNeg).toInt64), (4, .int (x1 * 8)), (0, .ref (a 1)), (1, .int x1), (2, .ref (a 36)), (3, .int x3)]) hx hb dX8_reckon_17 hl (by decide) rfl (fun ls hl => ?_)
  exact J19 100000 x3 (x1 * 8) (M.1 4 (x1 * 8).toNatClampNeg).toInt64 0 _ _ _ _ h hW (lv_sub hl [3, 5, 6, 2, 1, 0] rfl)
set_option maxRecDepth 100000 in
set_option maxHeartbeats 1000000 in
theorem c_X9_arrayAt (l : Launch) (K : Kx) (a d : Nat → Nat) {M : Mem} {x1 : Int32} {x2 : Int32} {r0 : Int32} (h : f_X9_arrayAt M x1 x2 = some r0) : CMi l yX9_arrayAt cX9_arrayAt 3 (some .int) ({ frames := 0, cells := 0, slots := 0, locals := 0 } : Room) K [.ref (a 38), .int x1, .int x2] (wC K a d M) (fun _ => wC K a d M) r0 := by
  refine cs_i (by decide +kernel) (Nat.le_of_ble_eq_true rfl) ?_
  intro p e s m args below meth c A ls hF hr hk hnm hW hl
  have hx := hF.1
  have hb := hF.2.1
  have hl : lv_has ls 3 [(0, .ref (a 38)), (1, .int x1), (2, .int x2)] := hl
  obtain ⟨H, hH⟩ : ∃ z, z = s.heap := ⟨_, rfl⟩
  rw [← hH] at hW ⊢
  unfold f_X9_arrayAt at h
  refine lv_aload_n hx hb dX9_arrayAt_0 rfl (lv_at hl 0 rfl) ?_
  refine g_X9_37 hF hW dX9_arrayAt_1 ?_
  refine g_X9_60 hF hW dX9_arrayAt_4 ?_
  refine lv_aload_n hx hb dX9_arrayAt_7 rfl (lv_at hl 0 rfl) ?_
  refine g_X9_41 hF hW dX9_arrayAt_8 ?_
  refine g_X9_65 hF hW dX9_arrayAt_11 ?_
  refine lv_iload_n hx hb dX9_arrayAt_14 rfl (lv_at hl 1 rfl) ?_
  obtain ⟨q1, h⟩ := ck_some h
  refine w_ild hF hW (pC_35 K a d _) q1 dX9_arrayAt_15 ?_
  refine lv_iconst (v := 3) hx hb dX9_arrayAt_16 (by decide) ?_
  refine lv_imul hx hb dX9_arrayAt_17 ?_
  refine lv_iload_n hx hb dX9_arrayAt_18 rfl (lv_at hl 2 rfl) ?_
  refine lv_iadd hx hb dX9_arrayAt_19 ?_
  obtain ⟨q2, h⟩ := ck_some h
  refine w_ild hF hW (pC_18 K a d _) q2 dX9_arrayAt_20 ?_
  obtain rfl := Option.some.inj h
  exact rt_i hF hr hk rfl (fun _ => 0) hW rfl dX9_arrayAt_21
set_option maxRecDepth 100000 in
set_option maxHeartbeats 1000000 in
theorem c_X9_slotOf (l : Launch) (K : Kx) {ws : va_W} {x0 : Int32} {x1 : Int64} {x3 : Int64} {r0 : Int32} (h : f_X9_slotOf x0 x1 x3 = some r0) : CMi l yX9_slotOf cX9_slotOf 7 (some .int) ({ frames := 0, cells := 0, slots := 0, locals := 0 } : Room) K [.int x0, .long x1, .long x3] ws (fun _ => ws) r0 := by
  refine cs_i (by decide +kernel) (Nat.le_of_ble_eq_true rfl) ?_
  intro p e s m args below meth c A ls hF hr hk hnm hW hl
  have hx := hF.1
  have hb := hF.2.1
  have hl : lv_has ls 7 [(0, .int x0), (1, .long x1), (3, .long x3)] := hl
  obtain ⟨H, hH⟩ : ∃ z, z = s.heap := ⟨_, rfl⟩
  rw [← hH] at hW ⊢
  unfold f_X9_slotOf at h
  refine lv_lload_n hx hb dX9_slotOf_0 rfl (lv_at hl 1 rfl) ?_
  refine lv_ldc2 hx hb hF.2.2.2.1 (hF.2.2.1 _ kl_X9_94) dX9_slotOf_1 ?_
  refine lv_lmul hx hb dX9_slotOf_4 ?_
  refine lv_lload_n hx hb dX9_slotOf_5 rfl (lv_at hl 2 rfl) ?_
  refine lv_ldc2 hx hb hF.2.2.2.1 (hF.2.2.1 _ kl_X9_96) dX9_slotOf_6 ?_
  refine lv_lmul hx hb dX9_slotOf_9 ?_
  refine lv_ladd hx hb dX9_slotOf_10 ?_
  refine lv_iload_n hx hb dX9_slotOf_11 rfl (lv_at hl 0 rfl) ?_
  refine lv_i2l hx hb dX9_slotOf_12 rfl ?_
  refine lv_ldc2 hx hb hF.2.2.2.1 (hF.2.2.1 _ kl_X9_98) dX9_slotOf_13 ?_
  refine lv_lmul hx hb dX9_slotOf_16 ?_
  refine lv_ladd hx hb dX9_slotOf_17 ?_
  refine lv_lstore (lv' := [(5, .long (((x1 * (-7046029254386353131)) + (x3 * (-4417276706812531889))) + (x0.toInt64 * 7146057691288625177))), (0, .int x0), (1, .long x1), (3, .long x3)]) hx hb dX9_slotOf_18 hl (by decide) rfl (fun ls hl => ?_)
  refine lv_lload hx hb dX9_slotOf_20 (lv_at hl 0 rfl) ?_
  refine lv_bipush (v := 48) hx hb dX9_slotOf_22 (by decide) ?_
  refine lv_lushr hx hb dX9_slotOf_24 rfl ?_
  refine lv_l2i hx hb dX9_slotOf_25 rfl ?_
  refine lv_sipush (v := 2047) hx hb dX9_slotOf_26 (by decide) ?_
  refine lv_iand hx hb dX9_slotOf_29 ?_
  obtain rfl := Option.some.inj h
  exact rt_i hF hr hk rfl (fun _ => 0) hW rfl dX9_slotOf_30
set_option maxRecDepth 100000 in
set_option maxHeartbeats 1000000 in
theorem c_X9_isSame (l : Launch) (K : Kx) (a d : Nat → Nat) {M : Mem} {x1 : Int32} {x2 : Int32} {r0 : Bool} (h : f_X9_isSame M x1 x2 = some r0) : CMi l yX9_isSame cX9_isSame 3 (some .boolean) ({ frames := 0, cells := 0, slots := 0, locals := 0 } : Room) K [.ref (a 38), .int x1, .int x2] (wC K a d M) (fun _ => wC K a d M) (bI r0) := by
  refine cs_i (by decide +kernel) (Nat.le_of_ble_eq_true rfl) ?_
  intro p e s m args below meth c A ls hF hr hk hnm hW hl
  have hx := hF.1
  have hb := hF.2.1
  have hl : lv_has ls 3 [(0, .ref (a 38)), (1, .int x1), (2, .int x2)] := hl
  obtain ⟨H, hH⟩ : ∃ z, z = s.heap := ⟨_, rfl⟩
  rw [← hH] at hW ⊢
  unfold f_X9_isSame at h
  refine lv_aload_n hx hb dX9_isSame_0 rfl (lv_at hl 0 rfl) ?_
  refine g_X9_18 hF hW dX9_isSame_1 ?_
  refine lv_iload_n hx hb dX9_isSame_4 rfl (lv_at hl 1 rfl) ?_
  obtain ⟨q1, h⟩ := ck_some h
  refine w_ild hF hW (pC_41 K a d _) q1 dX9_isSame_5 ?_
  refine lv_if_lt (tgt := 28) hx hb dX9_isSame_6 (by decide) (fun q2 => ?_) (fun q2 => ?_)
  · have h := ifp q2 h
    refine lv_iconst (v := 0) hx hb dX9_isSame_28 (by decide) ?_
    obtain rfl := Option.some.inj h
    exact rt_i hF hr hk (bI_n false) (fun _ => 0) hW rfl dX9_isSame_29
  · have h := ifn q2 h
    refine lv_aload_n hx hb dX9_isSame_9 rfl (lv_at hl 0 rfl) ?_
    refine g_X9_18 hF hW dX9_isSame_10 ?_
    refine lv_iload_n hx hb dX9_isSame_13 rfl (lv_at hl 1 rfl) ?_
    obtain ⟨q3, h⟩ := ck_some h
    refine w_ild hF hW (pC_41 K a d _) q3 dX9_isSame_14 ?_
    refine lv_aload_n hx hb dX9_isSame_15 rfl (lv_at hl 0 rfl) ?_
    refine g_X9_18 hF hW dX9_isSame_16 ?_
    refine lv_iload_n hx hb dX9_isSame_19 rfl (lv_at hl 2 rfl) ?_
    obtain ⟨q4, h⟩ := ck_some h
    refine w_ild hF hW (pC_41 K a d _) q4 dX9_isSame_20 ?_
    refine lv_icmp_ne (tgt := 28) hx hb dX9_isSame_21 (by decide) (fun q5 => ?_) (fun q5 => ?_)
    · have h := ifn q5 h
      refine lv_iconst (v := 0) hx hb dX9_isSame_28 (by decide) ?_
      obtain rfl := Option.some.inj h
      exact rt_i hF hr hk (bI_n false) (fun _ => 0) hW rfl dX9_isSame_29
    · have h := ifp q5 h
      refine lv_iconst (v := 1) hx hb dX9_isSame_24 (by decide) ?_
      refine lv_goto (tgt := 29) hx hb dX9_isSame_25 (by decide) ?_
      obtain rfl := Option.some.inj h
      exact rt_i hF hr hk (bI_n true) (fun _ => 0) hW rfl dX9_isSame_29
set_option maxRecDepth 100000 in
set_option maxHeartbeats 1000000 in
theorem c_X9_leastKind (l : Launch) (K : Kx) (a d : Nat → Nat) {M : Mem} {x1 : Int32} {x2 : Int32} {r0 : Int32} (h : f_X9_leastKind M x1 x2 = some r0) : CMi l yX9_leastKind cX9_leastKind 5 (some .int) ({ frames := 1, cells := 0, slots := 0, locals := 22 } : Room) K [.ref (a 38), .int x1, .int x2] (wC K a d M) (fun _ => wC K a d M) r0 := by
  refine cs_i (by decide +kernel) (Nat.le_of_ble_eq_true rfl) ?_
  intro p e s m args below meth c A ls hF hr hk hnm hW hl
  have hx := hF.1
  have hb := hF.2.1
  have hl : lv_has ls 5 [(0, .ref (a 38)), (1, .int x1), (2, .int x2)] := hl
  obtain ⟨H, hH⟩ : ∃ z, z = s.heap := ⟨_, rfl⟩
  rw [← hH] at hW ⊢
  unfold f_X9_leastKind at h
  refine lv_iload_n hx hb dX9_leastKind_0 rfl (lv_at hl 1 rfl) ?_
  refine lv_iconst (v := 3) hx hb dX9_leastKind_1 (by decide) ?_
  refine lv_imul hx hb dX9_leastKind_2 ?_
  refine lv_istore_n (lv' := [(3, .int (x1 * 3)), (0, .ref (a 38)), (1, .int x1), (2, .int x2)]) hx hb dX9_leastKind_3 rfl hl (by decide) rfl (fun ls hl => ?_)
  refine lv_iload_n hx hb dX9_leastKind_4 rfl (lv_at hl 3 rfl) ?_
  refine lv_iconst (v := 3) hx hb dX9_leastKind_5 (by decide) ?_
  refine lv_imul hx hb dX9_leastKind_6 ?_
  refine lv_istore (lv' := [(4, .int (x2 * 3)), (3, .int (x1 * 3)), (0, .ref (a 38)), (1, .int x1), (2, .int x2)]) hx hb dX9_leastKind_7 hl (by decide) rfl (fun ls hl => ?_)
  refine lv_aload_n hx hb dX9_leastKind_9 rfl (lv_at hl 2 rfl) ?_
  refine lv_iload_n hx hb dX9_leastKind_10 rfl (lv_at hl 1 rfl) ?_
  refine lv_iload hx hb dX9_leastKind_11 (lv_at hl 0 rfl) ?_
  refine lv_iconst (v := 1) hx hb dX9_leastKind_13 (by decide) ?_
  refine lv_iadd hx hb dX9_leastKind_14 ?_
  obtain ⟨r1, hc3, h⟩ := bq_some h
  refine cV_i (ci := 9) (q0 := 38) (rest := []) hF hW mw_X9_100 (c_X9_isSame l K a d hc3) ⟨Nat.le_of_ble_eq_true rfl, Nat.le_of_ble_eq_true rfl⟩ rfl rfl (pC_38 K a d _) rfl hl.1 rfl (Nat.le_of_ble_eq_true rfl) dX9_leastKind_15 ⟨Nat.le_of_ble_eq_true rfl, Nat.le_of_ble_eq_true rfl⟩ (fun _ H locs hW => ?_)
  refine lz_ne (tgt := 33) hx hb dX9_leastKind_18 (by decide) (fun q4 => ?_) (fun q4 => ?_)
  · have h := ifp q4 h
    refine lv_iconst (v := 0) hx hb dX9_leastKind_33 (by decide) ?_
    obtain rfl := Option.some.inj h
    exact rt_i hF hr hk rfl (fun _ => 0) hW rfl dX9_leastKind_34
  · have h := ifn q4 h
    refine lv_aload_n hx hb dX9_leastKind_21 rfl (lv_at hl 2 rfl) ?_
    refine lv_iload_n hx hb dX9_leastKind_22 rfl (lv_at hl 1 rfl) ?_
    refine lv_iload hx hb dX9_leastKind_23 (lv_at hl 0 rfl) ?_
    refine lv_iconst (v := 2) hx hb dX9_leastKind_25 (by decide) ?_
    refine lv_iadd hx hb dX9_leastKind_26 ?_
    obtain ⟨r5, hc7, h⟩ := bq_some h
    refine cV_i (ci := 9) (q0 := 38) (rest := []) hF hW mw_X9_100 (c_X9_isSame l K a d hc7) ⟨Nat.le_of_ble_eq_true rfl, Nat.le_of_ble_eq_true rfl⟩ rfl rfl (pC_38 K a d _) rfl hl.1 rfl (Nat.le_of_ble_eq_true rfl) dX9_leastKind_27 ⟨Nat.le_of_ble_eq_true rfl, Nat.le_of_ble_eq_true rfl⟩ (fun _ H locs hW => ?_)
    refine lz_eq (tgt := 35) hx hb dX9_leastKind_30 (by decide) (fun q8 => ?_) (fun q8 => ?_)
    · have h := ifn q8 h
      refine lv_aload_n hx hb dX9_leastKind_35 rfl (lv_at hl 2 rfl) ?_
      refine lv_iload_n hx hb dX9_leastKind_36 rfl (lv_at hl 1 rfl) ?_
      refine lv_iconst (v := 1) hx hb dX9_leastKind_37 (by decide) ?_
      refine lv_iadd hx hb dX9_leastKind_38 ?_
      refine lv_iload hx hb dX9_leastKind_39 (lv_at hl 0 rfl) ?_
      obtain ⟨r9, hc11, h⟩ := bq_some h
      refine cV_i (ci := 9) (q0 := 38) (rest := []) hF hW mw_X9_100 (c_X9_isSame l K a d hc11) ⟨Nat.le_of_ble_eq_true rfl, Nat.le_of_ble_eq_true rfl⟩ rfl rfl (pC_38 K a d _) rfl hl.1 rfl (Nat.le_of_ble_eq_true rfl) dX9_leastKind_41 ⟨Nat.le_of_ble_eq_true rfl, Nat.le_of_ble_eq_true rfl⟩ (fun _ H locs hW => ?_)
      refine lz_ne (tgt := 59) hx hb dX9_leastKind_44 (by decide) (fun q12 => ?_) (fun q12 => ?_)
      · have h := ifp q12 h
        refine lv_iconst (v := 1) hx hb dX9_leastKind_59 (by decide) ?_
        obtain rfl := Option.some.inj h
        exact rt_i hF hr hk rfl (fun _ => 0) hW rfl dX9_leastKind_60
      · have h := ifn q12 h
        refine lv_aload_n hx hb dX9_leastKind_47 rfl (lv_at hl 2 rfl) ?_
        refine lv_iload_n hx hb dX9_leastKind_48 rfl (lv_at hl 1 rfl) ?_
        refine lv_iconst (v := 2) hx hb dX9_leastKind_49 (by decide) ?_
        refine lv_iadd hx hb dX9_leastKind_50 ?_
        refine lv_iload hx hb dX9_leastKind_51 (lv_at hl 0 rfl) ?_
        obtain ⟨r13, hc15, h⟩ := bq_some h
        refine cV_i (ci := 9) (q0 := 38) (rest := []) hF hW mw_X9_100 (c_X9_isSame l K a d hc15) ⟨Nat.le_of_ble_eq_true rfl, Nat.le_of_ble_eq_true rfl⟩ rfl rfl (pC_38 K a d _) rfl hl.1 rfl (Nat.le_of_ble_eq_true rfl) dX9_leastKind_53 ⟨Nat.le_of_ble_eq_true rfl, Nat.le_of_ble_eq_true rfl⟩ (fun _ H locs hW => ?_)
        refine lz_eq (tgt := 61) hx hb dX9_leastKind_56 (by decide) (fun q16 => ?_) (fun q16 => ?_)
        · have h := ifn q16 h
          refine lv_aload_n hx hb dX9_leastKind_61 rfl (lv_at hl 2 rfl) ?_
          refine lv_iload_n hx hb dX9_leastKind_62 rfl (lv_at hl 1 rfl) ?_
          refine lv_iload hx hb dX9_leastKind_63 (lv_at hl 0 rfl) ?_
          obtain ⟨r17, hc19, h⟩ := bq_some h
          refine cV_i (ci := 9) (q0 := 38) (rest := []) hF hW mw_X9_100 (c_X9_isSame l K a d hc19) ⟨Nat.le_of_ble_eq_true rfl, Nat.le_of_ble_eq_true rfl⟩ rfl rfl (pC_38 K a d _) rfl hl.1 rfl (Nat.le_of_ble_eq_true rfl) dX9_leastKind_65 ⟨Nat.le_of_ble_eq_true rfl, Nat.le_of_ble_eq_true rfl⟩ (fun _ H locs hW => ?_)
          refine lz_eq (tgt := 75) hx hb dX9_leastKind_68 (by decide) (fun q20 => ?_) (fun q20 => ?_)
          · have h := ifn q20 h
            refine lv_bipush (v := (-9)) hx hb dX9_leastKind_75 (by decide) ?_
            obtain rfl := Option.some.inj h
            exact rt_i hF hr hk rfl (fun _ => 0) hW rfl dX9_leastKind_77
          · have h := ifp q20 h
            refine lv_iconst (v := 2) hx hb dX9_leastKind_71 (by decide) ?_
            refine lv_goto (tgt := 77) hx hb dX9_leastKind_72 (by decide) ?_
            obtain rfl := Option.some.inj h
            exact rt_i hF hr hk rfl (fun _ => 0) hW rfl dX9_leastKind_77
        · have h := ifp q16 h
          refine lv_iconst (v := 1) hx hb dX9_leastKind_59 (by decide) ?_
          obtain rfl := Option.some.inj h
          exact rt_i hF hr hk rfl (fun _ => 0) hW rfl dX9_leastKind_60
    · have h := ifp q8 h
      refine lv_iconst (v := 0) hx hb dX9_leastKind_33 (by decide) ?_
      obtain rfl := Option.some.inj h
      exact rt_i hF hr hk rfl (fun _ => 0) hW rfl dX9_leastKind_34
set_option maxRecDepth 100000 in
set_option maxHeartbeats 1000000 in
theorem c_X10_reckonTimes (l : Launch) (K : Kx) (a d : Nat → Nat) {M M0 : Mem} {x1 : Int32}  (h : f_X10_reckonTimes M x1 = some M0) : CMv l yX10_reckonTimes cX10_reckonTimes 9 ({ frames := 1, cells := 0, slots := 0, locals := 25 } : Room) K [.ref (a 55), .int x1] (wC K a d M) (fun _ => wC K a d M0) := by
  refine cs_v (by decide +kernel) (Nat.le_of_ble_eq_true rfl) ?_
  intro p e s m args below meth c A ls hF hr hk hnm hW hl
  have hx := hF.1
  have hb := hF.2.1
  have hl : lv_has ls 9 [(0, .ref (a 55)), (1, .int x1)] := hl
  obtain ⟨H, hH⟩ : ∃ z, z = s.heap := ⟨_, rfl⟩
  rw [← hH] at hW ⊢
  have J21 : ∀ (n21 : Nat) (x1 : Int32) (x3 : Int32) (x4 : Int32) (M : Mem) (H : Heap) (locs : List Loc) (ls : Array Slot), f_X10_reckonTimes_21 n21 x1 x3 x4 M = some M0 → Wd K A s (wC K a d M) H locs → lv_has ls 9 [(0, .ref (a 55)), (1, .int x1), (2, .ref (a 27)), (3, .int x3), (4, .int x4)] → W p l e ({ frames := 1, cells := 0, slots := 0, locals := 25 } : Room) s m args below meth c H locs 0 0 (EndV K A (fun _ => wC K a d M0) below args s ({ frames := 1, cells := 0, slots := 0, locals := 25 } : Room)) (F0 m 21 ls []) := by
    intro n21
    induction n21 with
    | zero => intro x1 x3 x4 M H locs ls h; exact absurd h (by simp [f_X10_reckonTimes_21])
    | succ n21 ih21 =>
      have J54 : ∀ (n54 : Nat) (x1 : Int32) (x3 : Int32) (x4 : Int32) (x5 : Int32) (x6 : Int64) (x8 : Int32) (M : Mem) (H : Heap) (locs : List Loc) (ls : Array Slot), f_X10_reckonTimes_54 (f_X10_reckonTimes_21 n21) n54 x1 x3 x4 x5 x6 x8 M = some M0 → Wd K A s (wC K a d M) H locs → lv_has ls 9 [(0, .ref (a 55)), (1, .int x1), (2, .ref (a 27)), (3, .int x3), (4, .int x4), (5, .int x5), (6, .long x6), (8, .int x8)] → W p l e ({ frames := 1, cells := 0, slots := 0, locals := 25 } : Room) s m args below meth c H locs 0 0 (EndV K A (fun _ => wC K a d M0) below args s ({ frames := 1, cells := 0, slots := 0, locals := 25 } : Room)) (F0 m 54 ls []) := by
        intro n54
        induction n54 with
        | zero => intro x1 x3 x4 x5 x6 x8 M H locs ls h; exact absurd h (by simp [f_X10_reckonTimes_54])
        | succ n54 ih54 =>
          intro x1 x3 x4 x5 x6 x8 M H locs ls h hW hl
          rw [f_X10_reckonTimes_54] at h
          refine lv_iload hx hb dX10_reckonTimes_54 (lv_at hl 7 rfl) ?_
          refine lv_iconst (v := 4) hx hb dX10_reckonTimes_56 (by decide) ?_
          refine lv_icmp_ge (tgt := 95) hx hb dX10_reckonTimes_57 (by decide) (fun q8 => ?_) (fun q8 => ?_)
          · have h := ifp q8 h
            refine lv_aload_n hx hb dX10_reckonTimes_95 rfl (lv_at hl 2 rfl) ?_
            refine g_X10_105_now hF hW dX10_reckonTimes_96 ?_
            refine lv_iload hx hb dX10_reckonTimes_99 (lv_at hl 5 rfl) ?_
            refine lv_iconst (v := 5) hx hb dX10_reckonTimes_101 (by decide) ?_
            refine lv_iadd hx hb dX10_reckonTimes_102 ?_
            obtain ⟨q9, h⟩ := ck_some h
            refine w_ild hF hW (pC_28 K a d _) q9 dX10_reckonTimes_103 ?_
            refine lv_istore (lv' := [(8, .int (M.1 28 (x5 + 5).toNatClampNeg)), (0, .ref (a 55)), (1, .int x1), (2, .ref (a 27)), (3, .int x3), (4, .int x4), (5, .int x5), (6, .long x6)]) hx hb dX10_reckonTimes_104 hl (by decide) rfl (fun ls hl => ?_)
            refine lv_aload_n hx hb dX10_reckonTimes_106 rfl (lv_at hl 1 rfl) ?_
            refine g_X10_9 hF hW dX10_reckonTimes_107 ?_
            refine lv_iload_n hx hb dX10_reckonTimes_110 rfl (lv_at hl 2 rfl) ?_
            refine lv_bipush (v := 16) hx hb dX10_reckonTimes_111 (by decide) ?_
            refine lv_imul hx hb dX10_reckonTimes_113 ?_
            refine lv_iload hx hb dX10_reckonTimes_114 (lv_at hl 5 rfl) ?_
            refine lv_iadd hx hb dX10_reckonTimes_116 ?_
            refine lv_iload hx hb dX10_reckonTimes_117 (lv_at hl 0 rfl) ?_
            refine lv_iconst (v := 1) hx hb dX10_reckonTimes_119 (by decide) ?_
            refine lv_icmp_le (tgt := 134) hx hb dX10_reckonTimes_120 (by decide) (fun q10 => ?_) (fun q10 => ?_)
            · have h := ifp q10 h
              refine lv_lload hx hb dX10_reckonTimes_134 (lv_at hl 7 rfl) ?_
              obtain ⟨q11, h⟩ := ck_some h
              refine w_lst hF hW (pC_56 K a d _) q11 (uC_56 K a d _ _ _) dX10_reckonTimes_136 (fun H locs hW => ?_)
              refine lv_iinc (v := (x4 + 1)) (lv' := [(4, .int (x4 + 1)), (8, .int (M.1 28 (x5 + 5).toNatClampNeg)), (0, .ref (a 55)), (1, .int x1), (2, .ref (a 27)), (3, .int x3), (5, .int x5), (6, .long x6)]) hx hb dX10_reckonTimes_137 hl (k := 5) rfl rfl (by decide) rfl (fun ls hl => ?_)
              refine lv_goto (tgt := 21) hx hb dX10_reckonTimes_140 (by decide) ?_
              exact ih21 x1 x3 (x4 + 1) _ _ _ _ h hW (lv_sub hl [2, 3, 4, 5, 0] rfl)
            · have h := ifn q10 h
              refine lv_lload hx hb dX10_reckonTimes_123 (lv_at hl 7 rfl) ?_
              refine lv_iload hx hb dX10_reckonTimes_125 (lv_at hl 0 rfl) ?_
              refine lv_i2l hx hb dX10_reckonTimes_127 rfl ?_
              obtain ⟨r12, hc14, h⟩ := bq_some h
              refine cS_l (rest := [.int ((x1 * 16) + x4), .ref (a 56)]) hF hW mw_X10_112 (c_J9_floorDiv_f86c9 l K hc14) ⟨Nat.le_of_ble_eq_true rfl, Nat.le_of_ble_eq_true rfl⟩ rfl hl.1 rfl (Nat.le_of_ble_eq_true rfl) dX10_reckonTimes_128 ⟨Nat.le_of_ble_eq_true rfl, Nat.le_of_ble_eq_true rfl⟩ (fun _ H locs hW => ?_)
              refine lv_goto (tgt := 136) hx hb dX10_reckonTimes_131 (by decide) ?_
              obtain ⟨q15, h⟩ := ck_some h
              refine w_lst hF hW (pC_56 K a d _) q15 (uC_56 K a d _ _ _) dX10_reckonTimes_136 (fun H locs hW => ?_)
              refine lv_iinc (v := (x4 + 1)) (lv' := [(4, .int (x4 + 1)), (8, .int (M.1 28 (x5 + 5).toNatClampNeg)), (0, .ref (a 55)), (1, .int x1), (2, .ref (a 27)), (3, .int x3), (5, .int x5), (6, .long x6)]) hx hb dX10_reckonTimes_137 hl (k := 5) rfl rfl (by decide) rfl (fun ls hl => ?_)
              refine lv_goto (tgt := 21) hx hb dX10_reckonTimes_140 (by decide) ?_
              exact ih21 x1 x3 (x4 + 1) _ _ _ _ h hW (lv_sub hl [2, 3, 4, 5, 0] rfl)
          · have h := ifn q8 h
            refine lv_lload hx hb dX10_reckonTimes_60 (lv_at hl 6 rfl) ?_
            refine lv_aload_n hx hb dX10_reckonTimes_62 rfl (lv_at hl 2 rfl) ?_
            refine g_X10_105_now hF hW dX10_reckonTimes_63 ?_
            refine lv_iload hx hb dX10_reckonTimes_66 (lv_at hl 5 rfl) ?_
            refine lv_iconst (v := 1) hx hb dX10_reckonTimes_68 (by decide) ?_
            refine lv_iadd hx hb dX10_reckonTimes_69 ?_
            refine lv_iload hx hb dX10_reckonTimes_70 (lv_at hl 7 rfl) ?_
            refine lv_iadd hx hb dX10_reckonTimes_72 ?_
            obtain ⟨q16, h⟩ := ck_some h
            refine w_ild hF hW (pC_28 K a d _) q16 dX10_reckonTimes_73 ?_
            refine lv_i2l hx hb dX10_reckonTimes_74 rfl ?_
            refine lv_aload_n hx hb dX10_reckonTimes_75 rfl (lv_at hl 0 rfl) ?_
            refine g_X10_61 hF hW dX10_reckonTimes_76 ?_
            refine lv_iload_n hx hb dX10_reckonTimes_79 rfl (lv_at hl 1 rfl) ?_
            refine lv_iload hx hb dX10_reckonTimes_80 (lv_at hl 7 rfl) ?_
            obtain ⟨r17, hc19, h⟩ := bq_some h
            refine cV_l (ci := 0) (q0 := 34) (rest := [.long (M.1 28 ((x5 + 1) + x8).toNatClampNeg).toInt64, .long x6]) hF hW mw_X10_108 (c_X0_letter l K a d hc19) ⟨Nat.le_of_ble_eq_true rfl, Nat.le_of_ble_eq_true rfl⟩ rfl rfl (pC_34 K a d _) rfl hl.1 rfl (Nat.le_of_ble_eq_true rfl) dX10_reckonTimes_82 ⟨Nat.le_of_ble_eq_true rfl, Nat.le_of_ble_eq_true rfl⟩ (fun _ H locs hW => ?_)
            refine lv_lmul hx hb dX10_reckonTimes_85 ?_
            refine lv_ladd hx hb dX10_reckonTimes_86 ?_
            refine lv_lstore (lv' := [(6, .long (x6 + ((M.1 28 ((x5 + 1) + x8).toNatClampNeg).toInt64 * r17))), (0, .ref (a 55)), (1, .int x1), (2, .ref (a 27)), (3, .int x3), (4, .int x4), (5, .int x5), (8, .int x8)]) hx hb dX10_reckonTimes_87 hl (by decide) rfl (fun ls hl => ?_)
            refine lv_iinc (v := (x8 + 1)) (lv' := [(8, .int (x8 + 1)), (6, .long (x6 + ((M.1 28 ((x5 + 1) + x8).toNatClampNeg).toInt64 * r17))), (0, .ref (a 55)), (1, .int x1), (2, .ref (a 27)), (3, .int x3), (4, .int x4), (5, .int x5)]) hx hb dX10_reckonTimes_89 hl (k := 7) rfl rfl (by decide) rfl (fun ls hl => ?_)
            refine lv_goto (tgt := 54) hx hb dX10_reckonTimes_92 (by decide) ?_
            exact ih54 x1 x3 x4 x5 (x6 + ((M.1 28 ((x5 + 1) + x8).toNatClampNeg).toInt64 * r17)) (x8 + 1) _ _ _ _ h hW (lv_sub hl [2, 3, 4, 5, 6, 7, 1, 0] rfl)
      intro x1 x3 x4 M H locs ls h hW hl
      rw [f_X10_reckonTimes_21] at h
      refine lv_iload hx hb dX10_reckonTimes_21 (lv_at hl 4 rfl) ?_
      refine lv_aload_n hx hb dX10_reckonTimes_23 rfl (lv_at hl 2 rfl) ?_
      refine g_X10_97_now hF hW dX10_reckonTimes_24 ?_
      refine lv_iload_n hx hb dX10_reckonTimes_27 rfl (lv_at hl 3 rfl) ?_
      obtain ⟨q2, h⟩ := ck_some h
      refine w_ild hF hW (pC_29 K a d _) q2 dX10_reckonTimes_28 ?_
      refine lv_icmp_ge (tgt := 143) hx hb dX10_reckonTimes_29 (by decide) (fun q3 => ?_) (fun q3 => ?_)
      · have h := ifp q3 h
        obtain rfl := Option.some.inj h
        exact rt_v hF hr hk (fun _ => 0) hW dX10_reckonTimes_143
      · have h := ifn q3 h
        refine lv_aload_n hx hb dX10_reckonTimes_32 rfl (lv_at hl 2 rfl) ?_
        refine lv_iload_n hx hb dX10_reckonTimes_33 rfl (lv_at hl 3 rfl) ?_
        refine lv_iload hx hb dX10_reckonTimes_34 (lv_at hl 4 rfl) ?_
        obtain ⟨r4, hc6, h⟩ := bq_some h
        refine cV_i (ci := 7) (q0 := 27) (rest := []) hF hW mw_X10_102 (c_X7_at l K a d hc6) ⟨Nat.le_of_ble_eq_true rfl, Nat.le_of_ble_eq_true rfl⟩ rfl rfl (pC_27 K a d _) rfl hl.1 rfl (Nat.le_of_ble_eq_true rfl) dX10_reckonTimes_36 ⟨Nat.le_of_ble_eq_true rfl, Nat.le_of_ble_eq_true rfl⟩ (fun _ H locs hW => ?_)
        refine lv_istore (lv' := [(5, .int r4), (0, .ref (a 55)), (1, .int x1), (2, .ref (a 27)), (3, .int x3), (4, .int x4)]) hx hb dX10_reckonTimes_39 hl (by decide) rfl (fun ls hl => ?_)
        refine lv_aload_n hx hb dX10_reckonTimes_41 rfl (lv_at hl 3 rfl) ?_
        refine g_X10_105_now hF hW dX10_reckonTimes_42 ?_
        refine lv_iload hx hb dX10_reckonTimes_45 (lv_at hl 0 rfl) ?_
        obtain ⟨q7, h⟩ := ck_some h
        refine w_ild hF hW (pC_28 K a d _) q7 dX10_reckonTimes_47 ?_
        refine lv_i2l hx hb dX10_reckonTimes_48 rfl ?_
        refine lv_lstore (lv' := [(6, .long (M.1 28 r4.toNatClampNeg).toInt64), (5, .int r4), (0, .ref (a 55)), (1, .int x1), (2, .ref (a 27)), (3, .int x3), (4, .int x4)]) hx hb dX10_reckonTimes_49 hl (by decide) rfl (fun ls hl => ?_)
        refine lv_iconst (v := 0) hx hb dX10_reckonTimes_51 (by decide) ?_
        refine lv_istore (lv' := [(8, .int 0), (6, .long (M.1 28 r4.toNatClampNeg).toInt64), (5, .int r4), (0, .ref (a 55)), (1, .int x1), (2, .ref (a 27)), (3, .int x3), (4, .int x4)]) hx hb dX10_reckonTimes_52 hl (by decide) rfl (fun ls hl => ?_)
        exact J54 100000 x1 x3 x4 r4 (M.1 28 r4.toNatClampNeg).toInt64 0 _ _ _ _ h hW (lv_sub hl [3, 4, 5, 6, 7, 2, 1, 0] rfl)
  unfold f_X10_reckonTimes at h
  refine lv_aload_n hx hb dX10_reckonTimes_0 rfl (lv_at hl 0 rfl) ?_
  refine g_X10_57 hF hW dX10_reckonTimes_1 ?_
  refine g_X10_88 hF hW dX10_reckonTimes_4 ?_
  refine lv_astore_n (lv' := [(2, .ref (a 27)), (0, .ref (a 55)), (1, .int x1)]) hx hb dX10_reckonTimes_7 rfl hl (by decide) rfl (fun ls hl => ?_)
  refine lv_aload_n hx hb dX10_reckonTimes_8 rfl (lv_at hl 1 rfl) ?_
  refine g_X10_61 hF hW dX10_reckonTimes_9 ?_
  refine g_X10_94 hF hW dX10_reckonTimes_12 ?_
  refine lv_iload_n hx hb dX10_reckonTimes_15 rfl (lv_at hl 2 rfl) ?_
  obtain ⟨q1, h⟩ := ck_some h
  refine w_ild hF hW (pC_35 K a d _) q1 dX10_reckonTimes_16 ?_
  refine lv_istore_n (lv' := [(3, .int (M.1 35 x1.toNatClampNeg)), (2, .ref (a 27)), (0, .ref (a 55)), (1, .int x1)]) hx hb dX10_reckonTimes_17 rfl hl (by decide) rfl (fun ls hl => ?_)
  refine lv_iconst (v := 0) hx hb dX10_reckonTimes_18 (by decide) ?_
  refine lv_istore (lv' := [(4, .int 0), (3, .int (M.1 35 x1.toNatClampNeg)), (2, .ref (a 27)), (0, .ref (a 55)), (1, .int x1)]) hx hb dX10_reckonTimes_19 hl (by decide) rfl (fun ls hl => ?_)
  exact J21 100000 x1 (M.1 35 x1.toNatClampNeg) 0 _ _ _ _ h hW (lv_sub hl [3, 4, 2, 1, 0] rfl)
set_option maxRecDepth 100000 in
set_option maxHeartbeats 1000000 in
theorem c_X10_isBehind (l : Launch) (K : Kx) (a d : Nat → Nat) {M : Mem} {x1 : Int32} {x2 : Int32} {r0 : Bool} (h : f_X10_isBehind M x1 x2 = some r0) : CMi l yX10_isBehind cX10_isBehind 11 (some .boolean) ({ frames := 1, cells := 0, slots := 0, locals := 21 } : Room) K [.ref (a 55), .int x1, .int x2] (wC K a d M) (fun _ => wC K a d M) (bI r0) := by
  refine cs_i (by decide +kernel) (Nat.le_of_ble_eq_true rfl) ?_
  intro p e s m args below meth c A ls hF hr hk hnm hW hl
  have hx := hF.1
  have hb := hF.2.1
  have hl : lv_has ls 11 [(0, .ref (a 55)), (1, .int x1), (2, .int x2)] := hl
  obtain ⟨H, hH⟩ : ∃ z, z = s.heap := ⟨_, rfl⟩
  rw [← hH] at hW ⊢
  have J54 : ∀ (n54 : Nat) (x1 : Int32) (x2 : Int32) (x3 : Int32) (x4 : Int32) (x5 : Int32) (x6 : Int32) (M : Mem) (H : Heap) (locs : List Loc) (ls : Array Slot), f_X10_isBehind_54 n54 x1 x2 x3 x4 x5 x6 M = some r0 → Wd K A s (wC K a d M) H locs → lv_has ls 11 [(0, .ref (a 55)), (1, .int x1), (2, .int x2), (3, .int x3), (4, .int x4), (5, .int x5), (6, .int x6)] → W p l e ({ frames := 1, cells := 0, slots := 0, locals := 21 } : Room) s m args below meth c H locs 0 0 (EndI K A (fun _ => wC K a d M) (bI r0) below args s ({ frames := 1, cells := 0, slots := 0, locals := 21 } : Room)) (F0 m 54 ls []) := by
    intro n54
    induction n54 with
    | zero => intro x1 x2 x3 x4 x5 x6 M H locs ls h; exact absurd h (by simp [f_X10_isBehind_54])
    | succ n54 ih54 =>
      intro x1 x2 x3 x4 x5 x6 M H locs ls h hW hl
      rw [f_X10_isBehind_54] at h
      refine lv_iload hx hb dX10_isBehind_54 (lv_at hl 6 rfl) ?_
      refine lv_iload hx hb dX10_isBehind_56 (lv_at hl 5 rfl) ?_
      refine lv_icmp_ge (tgt := 117) hx hb dX10_isBehind_58 (by decide) (fun q8 => ?_) (fun q8 => ?_)
      · have h := ifp q8 h
        refine lv_iload_n hx hb dX10_isBehind_117 rfl (lv_at hl 3 rfl) ?_
        refine lv_iload hx hb dX10_isBehind_118 (lv_at hl 4 rfl) ?_
        refine lv_icmp_le (tgt := 127) hx hb dX10_isBehind_120 (by decide) (fun q9 => ?_) (fun q9 => ?_)
        · have h := ifp q9 h
          refine lv_iconst (v := 0) hx hb dX10_isBehind_127 (by decide) ?_
          obtain rfl := Option.some.inj h
          exact rt_i hF hr hk (bI_n false) (fun _ => 0) hW rfl dX10_isBehind_128
        · have h := ifn q9 h
          refine lv_iconst (v := 1) hx hb dX10_isBehind_123 (by decide) ?_
          refine lv_goto (tgt := 128) hx hb dX10_isBehind_124 (by decide) ?_
          obtain rfl := Option.some.inj h
          exact rt_i hF hr hk (bI_n true) (fun _ => 0) hW rfl dX10_isBehind_128
      · have h := ifn q8 h
        refine lv_aload_n hx hb dX10_isBehind_61 rfl (lv_at hl 0 rfl) ?_
        refine g_X10_9 hF hW dX10_isBehind_62 ?_
        refine lv_iload_n hx hb dX10_isBehind_65 rfl (lv_at hl 1 rfl) ?_
        refine lv_bipush (v := 16) hx hb dX10_isBehind_66 (by decide) ?_
        refine lv_imul hx hb dX10_isBehind_68 ?_
        refine lv_iload hx hb dX10_isBehind_69 (lv_at hl 6 rfl) ?_
        refine lv_iadd hx hb dX10_isBehind_71 ?_
        obtain ⟨q10, h⟩ := ck_some h
        refine w_lld hF hW (pC_56 K a d _) q10 dX10_isBehind_72 ?_
        refine lv_lstore (lv' := [(7, .long (M.2.1 56 ((x1 * 16) + x6).toNatClampNeg)), (0, .ref (a 55)), (1, .int x1), (2, .int x2), (3, .int x3), (4, .int x4), (5, .int x5), (6, .int x6)]) hx hb dX10_isBehind_73 hl (by decide) rfl (fun ls hl => ?_)
        refine lv_aload_n hx hb dX10_isBehind_75 rfl (lv_at hl 1 rfl) ?_
        refine g_X10_9 hF hW dX10_isBehind_76 ?_
        refine lv_iload_n hx hb dX10_isBehind_79 rfl (lv_at hl 3 rfl) ?_
        refine lv_bipush (v := 16) hx hb dX10_isBehind_80 (by decide) ?_
        refine lv_imul hx hb dX10_isBehind_82 ?_
        refine lv_iload hx hb dX10_isBehind_83 (lv_at hl 7 rfl) ?_
        refine lv_iadd hx hb dX10_isBehind_85 ?_
        obtain ⟨q11, h⟩ := ck_some h
        refine w_lld hF hW (pC_56 K a d _) q11 dX10_isBehind_86 ?_
        refine lv_lstore (lv' := [(9, .long (M.2.1 56 ((x2 * 16) + x6).toNatClampNeg)), (7, .long (M.2.1 56 ((x1 * 16) + x6).toNatClampNeg)), (0, .ref (a 55)), (1, .int x1), (2, .int x2), (3, .int x3), (4, .int x4), (5, .int x5), (6, .int x6)]) hx hb dX10_isBehind_87 hl (by decide) rfl (fun ls hl => ?_)
        refine lv_lload hx hb dX10_isBehind_89 (lv_at hl 1 rfl) ?_
        refine lv_lload hx hb dX10_isBehind_91 (lv_at hl 0 rfl) ?_
        refine ll_eq (tgt := 111) hx hb dX10_isBehind_93 dX10_isBehind_94 (by decide) (fun q12 => ?_) (fun q12 => ?_)
        · have h := ifp q12 h
          refine lv_iinc (v := (x6 + 1)) (lv' := [(6, .int (x6 + 1)), (9, .long (M.2.1 56 ((x2 * 16) + x6).toNatClampNeg)), (7, .long (M.2.1 56 ((x1 * 16) + x6).toNatClampNeg)), (0, .ref (a 55)), (1, .int x1), (2, .int x2), (3, .int x3), (4, .int x4), (5, .int x5)]) hx hb dX10_isBehind_111 hl (k := 8) rfl rfl (by decide) rfl (fun ls hl => ?_)
          refine lv_goto (tgt := 54) hx hb dX10_isBehind_114 (by decide) ?_
          exact ih54 x1 x2 x3 x4 x5 (x6 + 1) _ _ _ _ h hW (lv_sub hl [3, 4, 5, 6, 7, 8, 0] rfl)
        · have h := ifn q12 h
          refine lv_lload hx hb dX10_isBehind_97 (lv_at hl 1 rfl) ?_
          refine lv_lload hx hb dX10_isBehind_99 (lv_at hl 0 rfl) ?_
          refine ll_le (tgt := 109) hx hb dX10_isBehind_101 dX10_isBehind_102 (by decide) (fun q13 => ?_) (fun q13 => ?_)
          · have h := ifp q13 h
            refine lv_iconst (v := 0) hx hb dX10_isBehind_109 (by decide) ?_
            obtain rfl := Option.some.inj h
            exact rt_i hF hr hk (bI_n false) (fun _ => 0) hW rfl dX10_isBehind_110
          · have h := ifn q13 h
            refine lv_iconst (v := 1) hx hb dX10_isBehind_105 (by decide) ?_
            refine lv_goto (tgt := 110) hx hb dX10_isBehind_106 (by decide) ?_
            obtain rfl := Option.some.inj h
            exact rt_i hF hr hk (bI_n true) (fun _ => 0) hW rfl dX10_isBehind_110
  unfold f_X10_isBehind at h
  refine lv_aload_n hx hb dX10_isBehind_0 rfl (lv_at hl 0 rfl) ?_
  refine g_X10_57 hF hW dX10_isBehind_1 ?_
  refine g_X10_88 hF hW dX10_isBehind_4 ?_
  refine g_X10_97_now hF hW dX10_isBehind_7 ?_
  refine lv_aload_n hx hb dX10_isBehind_10 rfl (lv_at hl 0 rfl) ?_
  refine g_X10_61 hF hW dX10_isBehind_11 ?_
  refine g_X10_94 hF hW dX10_isBehind_14 ?_
  refine lv_iload_n hx hb dX10_isBehind_17 rfl (lv_at hl 1 rfl) ?_
  obtain ⟨q1, h⟩ := ck_some h
  refine w_ild hF hW (pC_35 K a d _) q1 dX10_isBehind_18 ?_
  obtain ⟨q2, h⟩ := ck_some h
  refine w_ild hF hW (pC_29 K a d _) q2 dX10_isBehind_19 ?_
  refine lv_istore_n (lv' := [(3, .int (M.1 29 (M.1 35 x1.toNatClampNeg).toNatClampNeg)), (0, .ref (a 55)), (1, .int x1), (2, .int x2)]) hx hb dX10_isBehind_20 rfl hl (by decide) rfl (fun ls hl => ?_)
  refine lv_aload_n hx hb dX10_isBehind_21 rfl (lv_at hl 1 rfl) ?_
  refine g_X10_57 hF hW dX10_isBehind_22 ?_
  refine g_X10_88 hF hW dX10_isBehind_25 ?_
  refine g_X10_97_now hF hW dX10_isBehind_28 ?_
  refine lv_aload_n hx hb dX10_isBehind_31 rfl (lv_at hl 1 rfl) ?_
  refine g_X10_61 hF hW dX10_isBehind_32 ?_
  refine g_X10_94 hF hW dX10_isBehind_35 ?_
  refine lv_iload_n hx hb dX10_isBehind_38 rfl (lv_at hl 3 rfl) ?_
  obtain ⟨q3, h⟩ := ck_some h
  refine w_ild hF hW (pC_35 K a d _) q3 dX10_isBehind_39 ?_
  obtain ⟨q4, h⟩ := ck_some h
  refine w_ild hF hW (pC_29 K a d _) q4 dX10_isBehind_40 ?_
  refine lv_istore (lv' := [(4, .int (M.1 29 (M.1 35 x2.toNatClampNeg).toNatClampNeg)), (3, .int (M.1 29 (M.1 35 x1.toNatClampNeg).toNatClampNeg)), (0, .ref (a 55)), (1, .int x1), (2, .int x2)]) hx hb dX10_isBehind_41 hl (by decide) rfl (fun ls hl => ?_)
  refine lv_iload_n hx hb dX10_isBehind_43 rfl (lv_at hl 1 rfl) ?_
  refine lv_iload hx hb dX10_isBehind_44 (lv_at hl 0 rfl) ?_
  obtain ⟨r5, hc7, h⟩ := bq_some h
  refine cS_i (rest := []) hF hW mw_X10_78 (c_J9_min_7cf53 l K hc7) ⟨Nat.le_of_ble_eq_true rfl, Nat.le_of_ble_eq_true rfl⟩ rfl hl.1 rfl (Nat.le_of_ble_eq_true rfl) dX10_isBehind_46 ⟨Nat.le_of_ble_eq_true rfl, Nat.le_of_ble_eq_true rfl⟩ (fun _ H locs hW => ?_)
  refine lv_istore (lv' := [(5, .int r5), (4, .int (M.1 29 (M.1 35 x2.toNatClampNeg).toNatClampNeg)), (3, .int (M.1 29 (M.1 35 x1.toNatClampNeg).toNatClampNeg)), (0, .ref (a 55)), (1, .int x1), (2, .int x2)]) hx hb dX10_isBehind_49 hl (by decide) rfl (fun ls hl => ?_)
  refine lv_iconst (v := 0) hx hb dX10_isBehind_51 (by decide) ?_
  refine lv_istore (lv' := [(6, .int 0), (5, .int r5), (4, .int (M.1 29 (M.1 35 x2.toNatClampNeg).toNatClampNeg)), (3, .int (M.1 29 (M.1 35 x1.toNatClampNeg).toNatClampNeg)), (0, .ref (a 55)), (1, .int x1), (2, .int x2)]) hx hb dX10_isBehind_52 hl (by decide) rfl (fun ls hl => ?_)
  exact J54 100000 x1 x2 (M.1 29 (M.1 35 x1.toNatClampNeg).toNatClampNeg) (M.1 29 (M.1 35 x2.toNatClampNeg).toNatClampNeg) r5 0 _ _ _ _ h hW (lv_sub hl [4, 5, 6, 3, 2, 1, 0] rfl)
set_option maxRecDepth 100000 in
set_option maxHeartbeats 1000000 in
theorem c_X10_latestAt_t (l : Launch) (K : Kx) (a d : Nat → Nat) {M : Mem} {x1 : Int32} {r0 : Int32} (h : f_X10_latestAt_t M x1 = some r0) : CMi l yX10_latestAt cX10_latestAt 2 (some .int) ({ frames := 0, cells := 0, slots := 0, locals := 0 } : Room) K [.ref (a 61), .int x1] (wC K a d M) (fun _ => wC K a d M) r0 := by
  refine cs_i (by decide +kernel) (Nat.le_of_ble_eq_true rfl) ?_
  intro p e s m args below meth c A ls hF hr hk hnm hW hl
  have hx := hF.1
  have hb := hF.2.1
  have hl : lv_has ls 2 [(0, .ref (a 61)), (1, .int x1)] := hl
  obtain ⟨H, hH⟩ : ∃ z, z = s.heap := ⟨_, rfl⟩
  rw [← hH] at hW ⊢
  unfold f_X10_latestAt_t at h
  refine lv_iload_n hx hb dX10_latestAt_0 rfl (lv_at hl 1 rfl) ?_
  refine lv_if_ge (tgt := 9) hx hb dX10_latestAt_1 (by decide) (fun q1 => ?_) (fun q1 => ?_)
  · have h := ifp q1 h
    refine lv_aload_n hx hb dX10_latestAt_9 rfl (lv_at hl 0 rfl) ?_
    refine lv_iload_n hx hb dX10_latestAt_10 rfl (lv_at hl 1 rfl) ?_
    obtain ⟨q2, h⟩ := ck_some h
    refine w_ild hF hW (pC_61 K a d _) q2 dX10_latestAt_11 ?_
    obtain rfl := Option.some.inj h
    exact rt_i hF hr hk rfl (fun _ => 0) hW rfl dX10_latestAt_12
  · have h := ifn q1 h
    refine lv_bipush (v := (-9)) hx hb dX10_latestAt_4 (by decide) ?_
    refine lv_goto (tgt := 12) hx hb dX10_latestAt_6 (by decide) ?_
    obtain rfl := Option.some.inj h
    exact rt_i hF hr hk rfl (fun _ => 0) hW rfl dX10_latestAt_12
set_option maxRecDepth 100000 in
set_option maxHeartbeats 1000000 in
theorem c_X10_latestAt_w (l : Launch) (K : Kx) (a d : Nat → Nat) {M : Mem} {x1 : Int32} {r0 : Int32} (h : f_X10_latestAt_w M x1 = some r0) : CMi l yX10_latestAt cX10_latestAt 2 (some .int) ({ frames := 0, cells := 0, slots := 0, locals := 0 } : Room) K [.ref (a 60), .int x1] (wC K a d M) (fun _ => wC K a d M) r0 := by
  refine cs_i (by decide +kernel) (Nat.le_of_ble_eq_true rfl) ?_
  intro p e s m args below meth c A ls hF hr hk hnm hW hl
  have hx := hF.1
  have hb := hF.2.1
  have hl : lv_has ls 2 [(0, .ref (a 60)), (1, .int x1)] := hl
  obtain ⟨H, hH⟩ : ∃ z, z = s.heap := ⟨_, rfl⟩
  rw [← hH] at hW ⊢
  unfold f_X10_latestAt_w at h
  refine lv_iload_n hx hb dX10_latestAt_0 rfl (lv_at hl 1 rfl) ?_
  refine lv_if_ge (tgt := 9) hx hb dX10_latestAt_1 (by decide) (fun q1 => ?_) (fun q1 => ?_)
  · have h := ifp q1 h
    refine lv_aload_n hx hb dX10_latestAt_9 rfl (lv_at hl 0 rfl) ?_
    refine lv_iload_n hx hb dX10_latestAt_10 rfl (lv_at hl 1 rfl) ?_
    obtain ⟨q2, h⟩ := ck_some h
    refine w_ild hF hW (pC_60 K a d _) q2 dX10_latestAt_11 ?_
    obtain rfl := Option.some.inj h
    exact rt_i hF hr hk rfl (fun _ => 0) hW rfl dX10_latestAt_12
  · have h := ifn q1 h
    refine lv_bipush (v := (-9)) hx hb dX10_latestAt_4 (by decide) ?_
    refine lv_goto (tgt := 12) hx hb dX10_latestAt_6 (by decide) ?_
    obtain rfl := Option.some.inj h
    exact rt_i hF hr hk rfl (fun _ => 0) hW rfl dX10_latestAt_12
set_option maxRecDepth 100000 in
set_option maxHeartbeats 1000000 in
theorem c_X10_remember (l : Launch) (K : Kx) (a d : Nat → Nat) {M M0 : Mem} {x1 : Int32}  (h : f_X10_remember M x1 = some M0) : CMv l yX10_remember cX10_remember 4 ({ frames := 1, cells := 0, slots := 0, locals := 21 } : Room) K [.ref (a 55), .int x1] (wC K a d M) (fun _ => wC K a d M0) := by
  refine cs_v (by decide +kernel) (Nat.le_of_ble_eq_true rfl) ?_
  intro p e s m args below meth c A ls hF hr hk hnm hW hl
  have hx := hF.1
  have hb := hF.2.1
  have hl : lv_has ls 4 [(0, .ref (a 55)), (1, .int x1)] := hl
  obtain ⟨H, hH⟩ : ∃ z, z = s.heap := ⟨_, rfl⟩
  rw [← hH] at hW ⊢
  have J2 : ∀ (n2 : Nat) (x1 : Int32) (x2 : Int32) (M : Mem) (H : Heap) (locs : List Loc) (ls : Array Slot), f_X10_remember_2 n2 x1 x2 M = some M0 → Wd K A s (wC K a d M) H locs → lv_has ls 4 [(0, .ref (a 55)), (1, .int x1), (2, .int x2)] → W p l e ({ frames := 1, cells := 0, slots := 0, locals := 21 } : Room) s m args below meth c H locs 0 0 (EndV K A (fun _ => wC K a d M0) below args s ({ frames := 1, cells := 0, slots := 0, locals := 21 } : Room)) (F0 m 2 ls []) := by
    intro n2
    induction n2 with
    | zero => intro x1 x2 M H locs ls h; exact absurd h (by simp [f_X10_remember_2])
    | succ n2 ih2 =>
      intro x1 x2 M H locs ls h hW hl
      rw [f_X10_remember_2] at h
      refine lv_iload_n hx hb dX10_remember_2 rfl (lv_at hl 2 rfl) ?_
      refine lv_iconst (v := 3) hx hb dX10_remember_3 (by decide) ?_
      refine lv_icmp_ge (tgt := 80) hx hb dX10_remember_4 (by decide) (fun q1 => ?_) (fun q1 => ?_)
      · have h := ifp q1 h
        obtain rfl := Option.some.inj h
        exact rt_v hF hr hk (fun _ => 0) hW dX10_remember_80
      · have h := ifn q1 h
        refine lv_aload_n hx hb dX10_remember_7 rfl (lv_at hl 0 rfl) ?_
        refine g_X10_65 hF hW dX10_remember_8 ?_
        refine g_X10_153 hF hW dX10_remember_11 ?_
        refine lv_iload_n hx hb dX10_remember_14 rfl (lv_at hl 1 rfl) ?_
        refine lv_iconst (v := 3) hx hb dX10_remember_15 (by decide) ?_
        refine lv_imul hx hb dX10_remember_16 ?_
        refine lv_iload_n hx hb dX10_remember_17 rfl (lv_at hl 2 rfl) ?_
        refine lv_iadd hx hb dX10_remember_18 ?_
        obtain ⟨q2, h⟩ := ck_some h
        refine w_ild hF hW (pC_41 K a d _) q2 dX10_remember_19 ?_
        refine lv_istore_n (lv' := [(3, .int (M.1 41 ((x1 * 3) + x2).toNatClampNeg)), (0, .ref (a 55)), (1, .int x1), (2, .int x2)]) hx hb dX10_remember_20 rfl hl (by decide) rfl (fun ls hl => ?_)
        refine lv_iload_n hx hb dX10_remember_21 rfl (lv_at hl 0 rfl) ?_
        refine lv_if_ge (tgt := 28) hx hb dX10_remember_22 (by decide) (fun q3 => ?_) (fun q3 => ?_)
        · have h := ifp q3 h
          refine lv_aload_n hx hb dX10_remember_28 rfl (lv_at hl 1 rfl) ?_
          refine g_X10_32 hF hW dX10_remember_29 ?_
          refine lv_iload_n hx hb dX10_remember_32 rfl (lv_at hl 0 rfl) ?_
          refine lv_aload_n hx hb dX10_remember_33 rfl (lv_at hl 1 rfl) ?_
          refine g_X10_32 hF hW dX10_remember_34 ?_
          refine lv_iload_n hx hb dX10_remember_37 rfl (lv_at hl 0 rfl) ?_
          obtain ⟨q4, h⟩ := ck_some h
          refine w_ild hF hW (pC_61 K a d _) q4 dX10_remember_38 ?_
          refine lv_aload_n hx hb dX10_remember_39 rfl (lv_at hl 1 rfl) ?_
          refine g_X10_22 hF hW dX10_remember_40 ?_
          refine lv_iload_n hx hb dX10_remember_43 rfl (lv_at hl 2 rfl) ?_
          obtain ⟨q5, h⟩ := ck_some h
          refine w_ild hF hW (pC_59 K a d _) q5 dX10_remember_44 ?_
          obtain ⟨r6, hc8, h⟩ := bq_some h
          refine cS_i (rest := [.int (M.1 41 ((x1 * 3) + x2).toNatClampNeg), .ref (a 61)]) hF hW mw_X10_160 (c_J9_max_7cf53 l K hc8) ⟨Nat.le_of_ble_eq_true rfl, Nat.le_of_ble_eq_true rfl⟩ rfl hl.1 rfl (Nat.le_of_ble_eq_true rfl) dX10_remember_45 ⟨Nat.le_of_ble_eq_true rfl, Nat.le_of_ble_eq_true rfl⟩ (fun _ H locs hW => ?_)
          obtain ⟨q9, h⟩ := ck_some h
          refine w_ist hF hW (pC_61 K a d _) q9 (uC_61 K a d _ _ _) dX10_remember_48 (fun H locs hW => ?_)
          refine lv_iload_n hx hb dX10_remember_49 rfl (lv_at hl 3 rfl) ?_
          refine lv_if_ne (tgt := 74) hx hb dX10_remember_50 (by decide) (fun q10 => ?_) (fun q10 => ?_)
          · have h := ifn q10 h
            refine lv_iinc (v := (x2 + 1)) (lv' := [(2, .int (x2 + 1)), (3, .int (M.1 41 ((x1 * 3) + x2).toNatClampNeg)), (0, .ref (a 55)), (1, .int x1)]) hx hb dX10_remember_74 hl (k := 3) rfl rfl (by decide) rfl (fun ls hl => ?_)
            refine lv_goto (tgt := 2) hx hb dX10_remember_77 (by decide) ?_
            exact ih2 x1 (x2 + 1) _ _ _ _ h hW (lv_sub hl [2, 3, 0] rfl)
          · have h := ifp q10 h
            refine lv_aload_n hx hb dX10_remember_53 rfl (lv_at hl 1 rfl) ?_
            refine g_X10_29 hF hW dX10_remember_54 ?_
            refine lv_iload_n hx hb dX10_remember_57 rfl (lv_at hl 0 rfl) ?_
            refine lv_aload_n hx hb dX10_remember_58 rfl (lv_at hl 1 rfl) ?_
            refine g_X10_29 hF hW dX10_remember_59 ?_
            refine lv_iload_n hx hb dX10_remember_62 rfl (lv_at hl 0 rfl) ?_
            obtain ⟨q11, h⟩ := ck_some h
            refine w_ild hF hW (pC_60 K a d _) q11 dX10_remember_63 ?_
            refine lv_aload_n hx hb dX10_remember_64 rfl (lv_at hl 1 rfl) ?_
            refine g_X10_22 hF hW dX10_remember_65 ?_
            refine lv_iload_n hx hb dX10_remember_68 rfl (lv_at hl 2 rfl) ?_
            obtain ⟨q12, h⟩ := ck_some h
            refine w_ild hF hW (pC_59 K a d _) q12 dX10_remember_69 ?_
            obtain ⟨r13, hc15, h⟩ := bq_some h
            refine cS_i (rest := [.int (M.1 41 ((x1 * 3) + x2).toNatClampNeg), .ref (a 60)]) hF hW mw_X10_160 (c_J9_max_7cf53 l K hc15) ⟨Nat.le_of_ble_eq_true rfl, Nat.le_of_ble_eq_true rfl⟩ rfl hl.1 rfl (Nat.le_of_ble_eq_true rfl) dX10_remember_70 ⟨Nat.le_of_ble_eq_true rfl, Nat.le_of_ble_eq_true rfl⟩ (fun _ H locs hW => ?_)
            obtain ⟨q16, h⟩ := ck_some h
            refine w_ist hF hW (pC_60 K a d _) q16 (uC_60 K a d _ _ _) dX10_remember_73 (fun H locs hW => ?_)
            refine lv_iinc (v := (x2 + 1)) (lv' := [(2, .int (x2 + 1)), (3, .int (M.1 41 ((x1 * 3) + x2).toNatClampNeg)), (0, .ref (a 55)), (1, .int x1)]) hx hb dX10_remember_74 hl (k := 3) rfl rfl (by decide) rfl (fun ls hl => ?_)
            refine lv_goto (tgt := 2) hx hb dX10_remember_77 (by decide) ?_
            exact ih2 x1 (x2 + 1) _ _ _ _ h hW (lv_sub hl [2, 3, 0] rfl)
        · have h := ifn q3 h
          refine lv_goto (tgt := 74) hx hb dX10_remember_25 (by decide) ?_
          refine lv_iinc (v := (x2 + 1)) (lv' := [(2, .int (x2 + 1)), (3, .int (M.1 41 ((x1 * 3) + x2).toNatClampNeg)), (0, .ref (a 55)), (1, .int x1)]) hx hb dX10_remember_74 hl (k := 3) rfl rfl (by decide) rfl (fun ls hl => ?_)
          refine lv_goto (tgt := 2) hx hb dX10_remember_77 (by decide) ?_
          exact ih2 x1 (x2 + 1) _ _ _ _ h hW (lv_sub hl [2, 3, 0] rfl)
  unfold f_X10_remember at h
  refine lv_iconst (v := 0) hx hb dX10_remember_0 (by decide) ?_
  refine lv_istore_n (lv' := [(2, .int 0), (0, .ref (a 55)), (1, .int x1)]) hx hb dX10_remember_1 rfl hl (by decide) rfl (fun ls hl => ?_)
  exact J2 100000 x1 0 _ _ _ _ h hW (lv_sub hl [1, 2, 0] rfl)
set_option maxRecDepth 100000 in
set_option maxHeartbeats 1000000 in
theorem c_X10_findPartner (l : Launch) (K : Kx) (a d : Nat → Nat) {M M0 : Mem} {x1 : Int32}  (h : f_X10_findPartner M x1 = some M0) : CMv l yX10_findPartner cX10_findPartner 4 ({ frames := 2, cells := 0, slots := 0, locals := 46 } : Room) K [.ref (a 55), .int x1] (wC K a d M) (fun _ => wC K a d M0) := by
  refine cs_v (by decide +kernel) (Nat.le_of_ble_eq_true rfl) ?_
  intro p e s m args below meth c A ls hF hr hk hnm hW hl
  have hx := hF.1
  have hb := hF.2.1
  have hl : lv_has ls 4 [(0, .ref (a 55)), (1, .int x1)] := hl
  obtain ⟨H, hH⟩ : ∃ z, z = s.heap := ⟨_, rfl⟩
  rw [← hH] at hW ⊢
  have J2 : ∀ (n2 : Nat) (x1 : Int32) (x2 : Int32) (M : Mem) (H : Heap) (locs : List Loc) (ls : Array Slot), f_X10_findPartner_2 n2 x1 x2 M = some M0 → Wd K A s (wC K a d M) H locs → lv_has ls 4 [(0, .ref (a 55)), (1, .int x1), (2, .int x2)] → W p l e ({ frames := 2, cells := 0, slots := 0, locals := 46 } : Room) s m args below meth c H locs 0 0 (EndV K A (fun _ => wC K a d M0) below args s ({ frames := 2, cells := 0, slots := 0, locals := 46 } : Room)) (F0 m 2 ls []) := by
    intro n2
    induction n2 with
    | zero => intro x1 x2 M H locs ls h; exact absurd h (by simp [f_X10_findPartner_2])
    | succ n2 ih2 =>
      have J36 : ∀ (x1 : Int32) (x2 : Int32) (s0 : Int32) (M : Mem) (H : Heap) (locs : List Loc) (ls : Array Slot), f_X10_findPartner_36 (f_X10_findPartner_2 n2) x1 x2 s0 M = some M0 → Wd K A s (wC K a d M) H locs → lv_has ls 4 [(0, .ref (a 55)), (1, .int x1), (2, .int x2)] → W p l e ({ frames := 2, cells := 0, slots := 0, locals := 46 } : Room) s m args below meth c H locs 0 0 (EndV K A (fun _ => wC K a d M0) below args s ({ frames := 2, cells := 0, slots := 0, locals := 46 } : Room)) (F0 m 36 ls [.int s0]) := by
        intro x1 x2 s0 M H locs ls h hW hl
        unfold f_X10_findPartner_36 at h
        refine lv_istore_n (lv' := [(3, .int s0), (0, .ref (a 55)), (1, .int x1), (2, .int x2)]) hx hb dX10_findPartner_36 rfl hl (by decide) rfl (fun ls hl => ?_)
        refine lv_iload_n hx hb dX10_findPartner_37 rfl (lv_at hl 0 rfl) ?_
        refine lv_if_lt (tgt := 52) hx hb dX10_findPartner_38 (by decide) (fun q8 => ?_) (fun q8 => ?_)
        · have h := ifp q8 h
          refine lv_iinc (v := (x2 + 1)) (lv' := [(2, .int (x2 + 1)), (3, .int s0), (0, .ref (a 55)), (1, .int x1)]) hx hb dX10_findPartner_52 hl (k := 3) rfl rfl (by decide) rfl (fun ls hl => ?_)
          refine lv_goto (tgt := 2) hx hb dX10_findPartner_55 (by decide) ?_
          exact ih2 x1 (x2 + 1) _ _ _ _ h hW (lv_sub hl [2, 3, 0] rfl)
        · have h := ifn q8 h
          refine lv_aload_n hx hb dX10_findPartner_41 rfl (lv_at hl 1 rfl) ?_
          refine lv_iload_n hx hb dX10_findPartner_42 rfl (lv_at hl 3 rfl) ?_
          refine s_X10_35 (x := x2) hF hW dX10_findPartner_43 (fun H locs hW => ?_)
          refine lv_aload_n hx hb dX10_findPartner_46 rfl (lv_at hl 1 rfl) ?_
          refine lv_iload_n hx hb dX10_findPartner_47 rfl (lv_at hl 0 rfl) ?_
          refine s_X10_42 (x := s0) hF hW dX10_findPartner_48 (fun H locs hW => ?_)
          obtain rfl := Option.some.inj h
          exact rt_v hF hr hk (fun _ => 0) hW dX10_findPartner_51
      intro x1 x2 M H locs ls h hW hl
      rw [f_X10_findPartner_2] at h
      refine lv_iload_n hx hb dX10_findPartner_2 rfl (lv_at hl 2 rfl) ?_
      refine lv_iload_n hx hb dX10_findPartner_3 rfl (lv_at hl 1 rfl) ?_
      refine lv_icmp_ge (tgt := 58) hx hb dX10_findPartner_4 (by decide) (fun q1 => ?_) (fun q1 => ?_)
      · have h := ifp q1 h
        obtain rfl := Option.some.inj h
        exact rt_v hF hr hk (fun _ => 0) hW dX10_findPartner_58
      · have h := ifn q1 h
        refine lv_aload_n hx hb dX10_findPartner_7 rfl (lv_at hl 0 rfl) ?_
        refine g_X10_22 hF hW dX10_findPartner_8 ?_
        refine lv_iload_n hx hb dX10_findPartner_11 rfl (lv_at hl 2 rfl) ?_
        obtain ⟨q2, h⟩ := ck_some h
        refine w_ild hF hW (pC_59 K a d _) q2 dX10_findPartner_12 ?_
        refine lv_aload_n hx hb dX10_findPartner_13 rfl (lv_at hl 0 rfl) ?_
        refine g_X10_22 hF hW dX10_findPartner_14 ?_
        refine lv_iload_n hx hb dX10_findPartner_17 rfl (lv_at hl 1 rfl) ?_
        obtain ⟨q3, h⟩ := ck_some h
        refine w_ild hF hW (pC_59 K a d _) q3 dX10_findPartner_18 ?_
        refine lv_icmp_le (tgt := 34) hx hb dX10_findPartner_19 (by decide) (fun q4 => ?_) (fun q4 => ?_)
        · have h := ifp q4 h
          refine lv_bipush (v := (-9)) hx hb dX10_findPartner_34 (by decide) ?_
          exact J36 x1 x2 (-9) _ _ _ _ h hW (lv_sub hl [0, 1, 2] rfl)
        · have h := ifn q4 h
          refine lv_aload_n hx hb dX10_findPartner_22 rfl (lv_at hl 0 rfl) ?_
          refine g_X10_65 hF hW dX10_findPartner_23 ?_
          refine lv_iload_n hx hb dX10_findPartner_26 rfl (lv_at hl 2 rfl) ?_
          refine lv_iload_n hx hb dX10_findPartner_27 rfl (lv_at hl 1 rfl) ?_
          obtain ⟨r5, hc7, h⟩ := bq_some h
          refine cV_i (ci := 9) (q0 := 38) (rest := []) hF hW mw_X10_163 (c_X9_leastKind l K a d hc7) ⟨Nat.le_of_ble_eq_true rfl, Nat.le_of_ble_eq_true rfl⟩ rfl rfl (pC_38 K a d _) rfl hl.1 rfl (Nat.le_of_ble_eq_true rfl) dX10_findPartner_28 ⟨Nat.le_of_ble_eq_true rfl, Nat.le_of_ble_eq_true rfl⟩ (fun _ H locs hW => ?_)
          refine lv_goto (tgt := 36) hx hb dX10_findPartner_31 (by decide) ?_
          exact J36 x1 x2 r5 _ _ _ _ h hW (lv_sub hl [0, 1, 2] rfl)
  unfold f_X10_findPartner at h
  refine lv_iconst (v := 0) hx hb dX10_findPartner_0 (by decide) ?_
  refine lv_istore_n (lv' := [(2, .int 0), (0, .ref (a 55)), (1, .int x1)]) hx hb dX10_findPartner_1 rfl hl (by decide) rfl (fun ls hl => ?_)
  exact J2 100000 x1 0 _ _ _ _ h hW (lv_sub hl [1, 2, 0] rfl)
set_option maxRecDepth 100000 in
set_option maxHeartbeats 1000000 in
theorem c_X10_goesOn (l : Launch) (K : Kx) (a d : Nat → Nat) {M : Mem} {x1 : Int32} {x2 : Int32} {r0 : Bool} (h : f_X10_goesOn M x1 x2 = some r0) : CMi l yX10_goesOn cX10_goesOn 8 (some .boolean) ({ frames := 1, cells := 0, slots := 0, locals := 23 } : Room) K [.ref (a 55), .int x1, .int x2] (wC K a d M) (fun _ => wC K a d M) (bI r0) := by
  refine cs_i (by decide +kernel) (Nat.le_of_ble_eq_true rfl) ?_
  intro p e s m args below meth c A ls hF hr hk hnm hW hl
  have hx := hF.1
  have hb := hF.2.1
  have hl : lv_has ls 8 [(0, .ref (a 55)), (1, .int x1), (2, .int x2)] := hl
  obtain ⟨H, hH⟩ : ∃ z, z = s.heap := ⟨_, rfl⟩
  rw [← hH] at hW ⊢
  have J62 : ∀ (n62 : Nat) (x3 : Int32) (x4 : Int32) (x5 : Int32) (x6 : Int32) (x7 : Int32) (M : Mem) (H : Heap) (locs : List Loc) (ls : Array Slot), f_X10_goesOn_62 n62 x3 x4 x5 x6 x7 M = some r0 → Wd K A s (wC K a d M) H locs → lv_has ls 8 [(0, .ref (a 55)), (3, .int x3), (4, .int x4), (5, .int x5), (6, .int x6), (7, .int x7)] → W p l e ({ frames := 1, cells := 0, slots := 0, locals := 23 } : Room) s m args below meth c H locs 0 0 (EndI K A (fun _ => wC K a d M) (bI r0) below args s ({ frames := 1, cells := 0, slots := 0, locals := 23 } : Room)) (F0 m 62 ls []) := by
    intro n62
    induction n62 with
    | zero => intro x3 x4 x5 x6 x7 M H locs ls h; exact absurd h (by simp [f_X10_goesOn_62])
    | succ n62 ih62 =>
      intro x3 x4 x5 x6 x7 M H locs ls h hW hl
      rw [f_X10_goesOn_62] at h
      refine lv_iload hx hb dX10_goesOn_62 (lv_at hl 5 rfl) ?_
      refine lv_iconst (v := 4) hx hb dX10_goesOn_64 (by decide) ?_
      refine lv_icmp_ge (tgt := 105) hx hb dX10_goesOn_65 (by decide) (fun q8 => ?_) (fun q8 => ?_)
      · have h := ifp q8 h
        refine lv_iconst (v := 1) hx hb dX10_goesOn_105 (by decide) ?_
        obtain rfl := Option.some.inj h
        exact rt_i hF hr hk (bI_n true) (fun _ => 0) hW rfl dX10_goesOn_106
      · have h := ifn q8 h
        refine lv_aload_n hx hb dX10_goesOn_68 rfl (lv_at hl 0 rfl) ?_
        refine g_X10_61 hF hW dX10_goesOn_69 ?_
        refine lv_iload_n hx hb dX10_goesOn_72 rfl (lv_at hl 1 rfl) ?_
        refine lv_iload hx hb dX10_goesOn_73 (lv_at hl 2 rfl) ?_
        refine lv_iload hx hb dX10_goesOn_75 (lv_at hl 5 rfl) ?_
        obtain ⟨r9, hc11, h⟩ := bq_some h
        refine cV_l (ci := 0) (q0 := 34) (rest := []) hF hW mw_X10_173 (c_X0_step l K a d hc11) ⟨Nat.le_of_ble_eq_true rfl, Nat.le_of_ble_eq_true rfl⟩ rfl rfl (pC_34 K a d _) rfl hl.1 rfl (Nat.le_of_ble_eq_true rfl) dX10_goesOn_77 ⟨Nat.le_of_ble_eq_true rfl, Nat.le_of_ble_eq_true rfl⟩ (fun _ H locs hW => ?_)
        refine lv_aload_n hx hb dX10_goesOn_80 rfl (lv_at hl 0 rfl) ?_
        refine g_X10_61 hF hW dX10_goesOn_81 ?_
        refine lv_iload hx hb dX10_goesOn_84 (lv_at hl 3 rfl) ?_
        refine lv_iload hx hb dX10_goesOn_86 (lv_at hl 4 rfl) ?_
        refine lv_iload hx hb dX10_goesOn_88 (lv_at hl 5 rfl) ?_
        obtain ⟨r12, hc14, h⟩ := bq_some h
        refine cV_l (ci := 0) (q0 := 34) (rest := [.long r9]) hF hW mw_X10_173 (c_X0_step l K a d hc14) ⟨Nat.le_of_ble_eq_true rfl, Nat.le_of_ble_eq_true rfl⟩ rfl rfl (pC_34 K a d _) rfl hl.1 rfl (Nat.le_of_ble_eq_true rfl) dX10_goesOn_90 ⟨Nat.le_of_ble_eq_true rfl, Nat.le_of_ble_eq_true rfl⟩ (fun _ H locs hW => ?_)
        refine ll_eq (tgt := 99) hx hb dX10_goesOn_93 dX10_goesOn_94 (by decide) (fun q15 => ?_) (fun q15 => ?_)
        · have h := ifp q15 h
          refine lv_iinc (v := (x7 + 1)) (lv' := [(7, .int (x7 + 1)), (0, .ref (a 55)), (3, .int x3), (4, .int x4), (5, .int x5), (6, .int x6)]) hx hb dX10_goesOn_99 hl (k := 5) rfl rfl (by decide) rfl (fun ls hl => ?_)
          refine lv_goto (tgt := 62) hx hb dX10_goesOn_102 (by decide) ?_
          exact ih62 x3 x4 x5 x6 (x7 + 1) _ _ _ _ h hW (lv_sub hl [1, 2, 3, 4, 5, 0] rfl)
        · have h := ifn q15 h
          refine lv_iconst (v := 0) hx hb dX10_goesOn_97 (by decide) ?_
          obtain rfl := Option.some.inj h
          exact rt_i hF hr hk (bI_n false) (fun _ => 0) hW rfl dX10_goesOn_98
  unfold f_X10_goesOn at h
  refine lv_aload_n hx hb dX10_goesOn_0 rfl (lv_at hl 0 rfl) ?_
  refine g_X10_15 hF hW dX10_goesOn_1 ?_
  refine lv_iload_n hx hb dX10_goesOn_4 rfl (lv_at hl 2 rfl) ?_
  refine lv_iconst (v := 1) hx hb dX10_goesOn_5 (by decide) ?_
  refine lv_isub hx hb dX10_goesOn_6 ?_
  obtain ⟨q1, h⟩ := ck_some h
  refine w_ild hF hW (pC_57 K a d _) q1 dX10_goesOn_7 ?_
  refine lv_istore_n (lv' := [(3, .int (M.1 57 (x2 - 1).toNatClampNeg)), (0, .ref (a 55)), (1, .int x1), (2, .int x2)]) hx hb dX10_goesOn_8 rfl hl (by decide) rfl (fun ls hl => ?_)
  refine lv_aload_n hx hb dX10_goesOn_9 rfl (lv_at hl 1 rfl) ?_
  refine g_X10_15 hF hW dX10_goesOn_10 ?_
  refine lv_iload_n hx hb dX10_goesOn_13 rfl (lv_at hl 3 rfl) ?_
  obtain ⟨q2, h⟩ := ck_some h
  refine w_ild hF hW (pC_57 K a d _) q2 dX10_goesOn_14 ?_
  refine lv_istore (lv' := [(4, .int (M.1 57 x2.toNatClampNeg)), (3, .int (M.1 57 (x2 - 1).toNatClampNeg)), (0, .ref (a 55)), (1, .int x1), (2, .int x2)]) hx hb dX10_goesOn_15 hl (by decide) rfl (fun ls hl => ?_)
  refine lv_aload_n hx hb dX10_goesOn_17 rfl (lv_at hl 2 rfl) ?_
  refine g_X10_61 hF hW dX10_goesOn_18 ?_
  refine g_X10_94 hF hW dX10_goesOn_21 ?_
  refine lv_iload_n hx hb dX10_goesOn_24 rfl (lv_at hl 1 rfl) ?_
  obtain ⟨q3, h⟩ := ck_some h
  refine w_ild hF hW (pC_35 K a d _) q3 dX10_goesOn_25 ?_
  refine lv_aload_n hx hb dX10_goesOn_26 rfl (lv_at hl 2 rfl) ?_
  refine g_X10_61 hF hW dX10_goesOn_27 ?_
  refine g_X10_94 hF hW dX10_goesOn_30 ?_
  refine lv_iload hx hb dX10_goesOn_33 (lv_at hl 0 rfl) ?_
  obtain ⟨q4, h⟩ := ck_some h
  refine w_ild hF hW (pC_35 K a d _) q4 dX10_goesOn_35 ?_
  refine lv_icmp_eq (tgt := 41) hx hb dX10_goesOn_36 (by decide) (fun q5 => ?_) (fun q5 => ?_)
  · have h := ifp q5 h
    refine lv_aload_n hx hb dX10_goesOn_41 rfl (lv_at hl 2 rfl) ?_
    refine g_X10_15 hF hW dX10_goesOn_42 ?_
    refine lv_iload_n hx hb dX10_goesOn_45 rfl (lv_at hl 3 rfl) ?_
    obtain ⟨q6, h⟩ := ck_some h
    refine w_ild hF hW (pC_57 K a d _) q6 dX10_goesOn_46 ?_
    refine lv_istore (lv' := [(5, .int (M.1 57 x1.toNatClampNeg)), (4, .int (M.1 57 x2.toNatClampNeg)), (3, .int (M.1 57 (x2 - 1).toNatClampNeg)), (0, .ref (a 55)), (1, .int x1), (2, .int x2)]) hx hb dX10_goesOn_47 hl (by decide) rfl (fun ls hl => ?_)
    refine lv_aload_n hx hb dX10_goesOn_49 rfl (lv_at hl 3 rfl) ?_
    refine g_X10_15 hF hW dX10_goesOn_50 ?_
    refine lv_iload_n hx hb dX10_goesOn_53 rfl (lv_at hl 4 rfl) ?_
    refine lv_iconst (v := 1) hx hb dX10_goesOn_54 (by decide) ?_
    refine lv_iadd hx hb dX10_goesOn_55 ?_
    obtain ⟨q7, h⟩ := ck_some h
    refine w_ild hF hW (pC_57 K a d _) q7 dX10_goesOn_56 ?_
    refine lv_istore (lv' := [(6, .int (M.1 57 (x1 + 1).toNatClampNeg)), (5, .int (M.1 57 x1.toNatClampNeg)), (4, .int (M.1 57 x2.toNatClampNeg)), (3, .int (M.1 57 (x2 - 1).toNatClampNeg)), (0, .ref (a 55)), (1, .int x1), (2, .int x2)]) hx hb dX10_goesOn_57 hl (by decide) rfl (fun ls hl => ?_)
    refine lv_iconst (v := 0) hx hb dX10_goesOn_59 (by decide) ?_
    refine lv_istore (lv' := [(7, .int 0), (6, .int (M.1 57 (x1 + 1).toNatClampNeg)), (5, .int (M.1 57 x1.toNatClampNeg)), (4, .int (M.1 57 x2.toNatClampNeg)), (3, .int (M.1 57 (x2 - 1).toNatClampNeg)), (0, .ref (a 55)), (1, .int x1), (2, .int x2)]) hx hb dX10_goesOn_60 hl (by decide) rfl (fun ls hl => ?_)
    exact J62 100000 (M.1 57 (x2 - 1).toNatClampNeg) (M.1 57 x2.toNatClampNeg) (M.1 57 x1.toNatClampNeg) (M.1 57 (x1 + 1).toNatClampNeg) 0 _ _ _ _ h hW (lv_sub hl [5, 4, 3, 2, 1, 0] rfl)
  · have h := ifn q5 h
    refine lv_iconst (v := 0) hx hb dX10_goesOn_39 (by decide) ?_
    obtain rfl := Option.some.inj h
    exact rt_i hF hr hk (bI_n false) (fun _ => 0) hW rfl dX10_goesOn_40
set_option maxRecDepth 100000 in
set_option maxHeartbeats 1000000 in
theorem c_X11_sum (l : Launch) (K : Kx) (a d : Nat → Nat) {M M0 : Mem}  {r0 : Int32} (h : f_X11_sum M = some (r0, M0)) : CMi l yX11_sum cX11_sum 1 (some .int) ({ frames := 2, cells := 0, slots := 0, locals := 80 } : Room) K [.ref (a 0)] (wC K a d M) (fun _ => wC K a d M0) r0 := by
  refine cs_i (by decide +kernel) (Nat.le_of_ble_eq_true rfl) ?_
  intro p e s m args below meth c A ls hF hr hk hnm hW hl
  have hx := hF.1
  have hb := hF.2.1
  have hl : lv_has ls 1 [(0, .ref (a 0))] := hl
  obtain ⟨H, hH⟩ : ∃ z, z = s.heap := ⟨_, rfl⟩
  rw [← hH] at hW ⊢
  unfold f_X11_sum at h
  refine lv_aload_n hx hb dX11_sum_0 rfl (lv_at hl 0 rfl) ?_
  refine g_X11_10 hF hW dX11_sum_1 ?_
  refine g_X11_126 hF hW dX11_sum_4 ?_
  refine lv_bipush (v := 80) hx hb dX11_sum_7 (by decide) ?_
  refine lv_icmp_lt (tgt := 17) hx hb dX11_sum_9 (by decide) (fun q1 => ?_) (fun q1 => ?_)
  · have h := ifp q1 h
    refine lv_aload_n hx hb dX11_sum_17 rfl (lv_at hl 0 rfl) ?_
    refine g_X11_10 hF hW dX11_sum_18 ?_
    obtain ⟨r2, M3, hc4, h⟩ := bd_some h
    refine cV_i (ci := 8) (q0 := 1) (rest := []) hF hW mw_X11_129 (c_X8_keepDraft l K a d hc4) ⟨Nat.le_of_ble_eq_true rfl, Nat.le_of_ble_eq_true rfl⟩ rfl rfl (pC_1 K a d _) rfl hl.1 rfl (Nat.le_of_ble_eq_true rfl) dX11_sum_21 ⟨Nat.le_of_ble_eq_true rfl, Nat.le_of_ble_eq_true rfl⟩ (fun _ H locs hW => ?_)
    obtain ⟨rfl, rfl⟩ := Prod.mk.inj (Option.some.inj h)
    exact rt_i hF hr hk rfl (fun _ => 0) hW rfl dX11_sum_24
  · have h := ifn q1 h
    refine lv_bipush (v := (-2)) hx hb dX11_sum_12 (by decide) ?_
    refine lv_goto (tgt := 24) hx hb dX11_sum_14 (by decide) ?_
    obtain ⟨rfl, rfl⟩ := Prod.mk.inj (Option.some.inj h)
    exact rt_i hF hr hk rfl (fun _ => 0) hW rfl dX11_sum_24
set_option maxRecDepth 100000 in
set_option maxHeartbeats 1000000 in
theorem c_X11_hold (l : Launch) (K : Kx) (a d : Nat → Nat) {M M0 : Mem} {x1 : Int32} {x2 : Int32} {r0 : Int32} (h : f_X11_hold M x1 x2 = some (r0, M0)) : CMi l yX11_hold cX11_hold 3 (some .int) ({ frames := 1, cells := 0, slots := 0, locals := 22 } : Room) K [.ref (a 0), .int x1, .int x2] (wC K a d M) (fun _ => wC K a d M0) r0 := by
  refine cs_i (by decide +kernel) (Nat.le_of_ble_eq_true rfl) ?_
  intro p e s m args below meth c A ls hF hr hk hnm hW hl
  have hx := hF.1
  have hb := hF.2.1
  have hl : lv_has ls 3 [(0, .ref (a 0)), (1, .int x1), (2, .int x2)] := hl
  obtain ⟨H, hH⟩ : ∃ z, z = s.heap := ⟨_, rfl⟩
  rw [← hH] at hW ⊢
  unfold f_X11_hold at h
  refine lv_aload_n hx hb dX11_hold_0 rfl (lv_at hl 0 rfl) ?_
  refine g_X11_19 hF hW dX11_hold_1 ?_
  refine lv_iload_n hx hb dX11_hold_4 rfl (lv_at hl 1 rfl) ?_
  obtain ⟨r1, hc3, h⟩ := bq_some h
  refine cV_i (ci := 2) (q0 := 5) (rest := []) hF hW mw_X11_152 (c_X2_known l K a d hc3) ⟨Nat.le_of_ble_eq_true rfl, Nat.le_of_ble_eq_true rfl⟩ rfl rfl (pC_5 K a d _) rfl hl.1 rfl (Nat.le_of_ble_eq_true rfl) dX11_hold_5 ⟨Nat.le_of_ble_eq_true rfl, Nat.le_of_ble_eq_true rfl⟩ (fun _ H locs hW => ?_)
  refine lz_eq (tgt := 16) hx hb dX11_hold_8 (by decide) (fun q4 => ?_) (fun q4 => ?_)
  · have h := ifn q4 h
    refine lv_iconst (v := (-1)) hx hb dX11_hold_16 (by decide) ?_
    obtain ⟨rfl, rfl⟩ := Prod.mk.inj (Option.some.inj h)
    exact rt_i hF hr hk rfl (fun _ => 0) hW rfl dX11_hold_17
  · have h := ifp q4 h
    refine lv_iload_n hx hb dX11_hold_11 rfl (lv_at hl 1 rfl) ?_
    refine lv_iload_n hx hb dX11_hold_12 rfl (lv_at hl 2 rfl) ?_
    refine lv_icmp_ne (tgt := 18) hx hb dX11_hold_13 (by decide) (fun q5 => ?_) (fun q5 => ?_)
    · have h := ifn q5 h
      refine lv_iload_n hx hb dX11_hold_18 rfl (lv_at hl 2 rfl) ?_
      refine lv_bipush (v := (-9)) hx hb dX11_hold_19 (by decide) ?_
      refine lv_icmp_ne (tgt := 34) hx hb dX11_hold_21 (by decide) (fun q6 => ?_) (fun q6 => ?_)
      · have h := ifn q6 h
        refine lv_aload_n hx hb dX11_hold_34 rfl (lv_at hl 0 rfl) ?_
        refine g_X11_19 hF hW dX11_hold_35 ?_
        refine lv_iload_n hx hb dX11_hold_38 rfl (lv_at hl 2 rfl) ?_
        obtain ⟨r7, hc9, h⟩ := bq_some h
        refine cV_i (ci := 2) (q0 := 5) (rest := []) hF hW mw_X11_152 (c_X2_known l K a d hc9) ⟨Nat.le_of_ble_eq_true rfl, Nat.le_of_ble_eq_true rfl⟩ rfl rfl (pC_5 K a d _) rfl hl.1 rfl (Nat.le_of_ble_eq_true rfl) dX11_hold_39 ⟨Nat.le_of_ble_eq_true rfl, Nat.le_of_ble_eq_true rfl⟩ (fun _ H locs hW => ?_)
        refine lz_ne (tgt := 47) hx hb dX11_hold_42 (by decide) (fun q10 => ?_) (fun q10 => ?_)
        · have h := ifp q10 h
          refine lv_aload_n hx hb dX11_hold_47 rfl (lv_at hl 0 rfl) ?_
          refine g_X11_26 hF hW dX11_hold_48 ?_
          refine lv_iload_n hx hb dX11_hold_51 rfl (lv_at hl 1 rfl) ?_
          refine lv_iload_n hx hb dX11_hold_52 rfl (lv_at hl 2 rfl) ?_
          obtain ⟨M12, hc13, h⟩ := bm_some h
          refine cV_v (ci := 4) (q0 := 21) (rest := []) hF hW mw_X11_187 (c_X4_putNode l K a d hc13) ⟨Nat.le_of_ble_eq_true rfl, Nat.le_of_ble_eq_true rfl⟩ rfl rfl (pC_21 K a d _) rfl hl.1 rfl (Nat.le_of_ble_eq_true rfl) dX11_hold_53 ⟨Nat.le_of_ble_eq_true rfl, Nat.le_of_ble_eq_true rfl⟩ (fun _ H locs hW => ?_)
          refine lv_iconst (v := 1) hx hb dX11_hold_56 (by decide) ?_
          obtain ⟨rfl, rfl⟩ := Prod.mk.inj (Option.some.inj h)
          exact rt_i hF hr hk rfl (fun _ => 0) hW rfl dX11_hold_57
        · have h := ifn q10 h
          refine lv_iconst (v := (-1)) hx hb dX11_hold_45 (by decide) ?_
          obtain ⟨rfl, rfl⟩ := Prod.mk.inj (Option.some.inj h)
          exact rt_i hF hr hk rfl (fun _ => 0) hW rfl dX11_hold_46
      · have h := ifp q6 h
        refine lv_aload_n hx hb dX11_hold_24 rfl (lv_at hl 0 rfl) ?_
        refine g_X11_26 hF hW dX11_hold_25 ?_
        refine lv_iload_n hx hb dX11_hold_28 rfl (lv_at hl 1 rfl) ?_
        obtain ⟨M15, hc16, h⟩ := bm_some h
        refine cV_v (ci := 4) (q0 := 21) (rest := []) hF hW mw_X11_183 (c_X4_empty l K a d hc16) ⟨Nat.le_of_ble_eq_true rfl, Nat.le_of_ble_eq_true rfl⟩ rfl rfl (pC_21 K a d _) rfl hl.1 rfl (Nat.le_of_ble_eq_true rfl) dX11_hold_29 ⟨Nat.le_of_ble_eq_true rfl, Nat.le_of_ble_eq_true rfl⟩ (fun _ H locs hW => ?_)
        refine lv_iconst (v := 1) hx hb dX11_hold_32 (by decide) ?_
        obtain ⟨rfl, rfl⟩ := Prod.mk.inj (Option.some.inj h)
        exact rt_i hF hr hk rfl (fun _ => 0) hW rfl dX11_hold_33
    · have h := ifp q5 h
      refine lv_iconst (v := (-1)) hx hb dX11_hold_16 (by decide) ?_
      obtain ⟨rfl, rfl⟩ := Prod.mk.inj (Option.some.inj h)
      exact rt_i hF hr hk rfl (fun _ => 0) hW rfl dX11_hold_17
set_option maxRecDepth 100000 in
set_option maxHeartbeats 1000000 in
theorem c_X11_asked (l : Launch) (K : Kx) (a d : Nat → Nat) {M : Mem}  {r0 : Int64} (h : f_X11_asked M = some r0) : CMl l yX11_asked cX11_asked 1 ({ frames := 0, cells := 0, slots := 0, locals := 0 } : Room) K [.ref (a 0)] (wC K a d M) (fun _ => wC K a d M) r0 := by
  refine cs_l (by decide +kernel) (Nat.le_of_ble_eq_true rfl) ?_
  intro p e s m args below meth c A ls hF hr hk hnm hW hl
  have hx := hF.1
  have hb := hF.2.1
  have hl : lv_has ls 1 [(0, .ref (a 0))] := hl
  obtain ⟨H, hH⟩ : ∃ z, z = s.heap := ⟨_, rfl⟩
  rw [← hH] at hW ⊢
  unfold f_X11_asked at h
  refine lv_aload_n hx hb dX11_asked_0 rfl (lv_at hl 0 rfl) ?_
  refine g_X11_92 hF hW dX11_asked_1 ?_
  obtain rfl := Option.some.inj h
  exact rt_l hF hr hk (fun _ => 0) hW rfl dX11_asked_4
set_option maxRecDepth 100000 in
set_option maxHeartbeats 1000000 in
theorem c_X11_count (l : Launch) (K : Kx) (a d : Nat → Nat) {M : Mem} {x1 : Int32} {r0 : Int32} (h : f_X11_count M x1 = some r0) : CMi l yX11_count cX11_count 2 (some .int) ({ frames := 0, cells := 0, slots := 0, locals := 0 } : Room) K [.ref (a 0), .int x1] (wC K a d M) (fun _ => wC K a d M) r0 := by
  refine cs_i (by decide +kernel) (Nat.le_of_ble_eq_true rfl) ?_
  intro p e s m args below meth c A ls hF hr hk hnm hW hl
  have hx := hF.1
  have hb := hF.2.1
  have hl : lv_has ls 2 [(0, .ref (a 0)), (1, .int x1)] := hl
  obtain ⟨H, hH⟩ : ∃ z, z = s.heap := ⟨_, rfl⟩
  rw [← hH] at hW ⊢
  unfold f_X11_count at h
  refine lv_iload_n hx hb dX11_count_0 rfl (lv_at hl 1 rfl) ?_
  by_cases q1 : x1 = 0
  · have h := ifp q1 h
    refine lv_tableIn (tgt := 36) hx hb dX11_count_1 (by rw [q1]; decide) (by rw [q1]; decide) (by rw [q1]; rfl) (by decide) ?_
    refine lv_aload_n hx hb dX11_count_36 rfl (lv_at hl 0 rfl) ?_
    refine g_X11_10 hF hW dX11_count_37 ?_
    refine g_X11_126 hF hW dX11_count_40 ?_
    obtain rfl := Option.some.inj h
    exact rt_i hF hr hk rfl (fun _ => 0) hW rfl dX11_count_43
  have h := ifn q1 h
  by_cases q2 : x1 = 1
  · have h := ifp q2 h
    refine lv_tableIn (tgt := 44) hx hb dX11_count_1 (by rw [q2]; decide) (by rw [q2]; decide) (by rw [q2]; rfl) (by decide) ?_
    refine lv_aload_n hx hb dX11_count_44 rfl (lv_at hl 0 rfl) ?_
    refine g_X11_19 hF hW dX11_count_45 ?_
    refine g_X11_409 hF hW dX11_count_48 ?_
    obtain rfl := Option.some.inj h
    exact rt_i hF hr hk rfl (fun _ => 0) hW rfl dX11_count_51
  have h := ifn q2 h
  by_cases q3 : x1 = 2
  · have h := ifp q3 h
    refine lv_tableIn (tgt := 52) hx hb dX11_count_1 (by rw [q3]; decide) (by rw [q3]; decide) (by rw [q3]; rfl) (by decide) ?_
    refine lv_aload_n hx hb dX11_count_52 rfl (lv_at hl 0 rfl) ?_
    refine g_X11_19 hF hW dX11_count_53 ?_
    refine g_X11_149 hF hW dX11_count_56 ?_
    obtain rfl := Option.some.inj h
    exact rt_i hF hr hk rfl (fun _ => 0) hW rfl dX11_count_59
  have h := ifn q3 h
  by_cases q4 : x1 = 3
  · have h := ifp q4 h
    refine lv_tableIn (tgt := 60) hx hb dX11_count_1 (by rw [q4]; decide) (by rw [q4]; decide) (by rw [q4]; rfl) (by decide) ?_
    refine lv_aload_n hx hb dX11_count_60 rfl (lv_at hl 0 rfl) ?_
    refine g_X11_36 hF hW dX11_count_61 ?_
    obtain rfl := Option.some.inj h
    exact rt_i hF hr hk rfl (fun _ => 0) hW rfl dX11_count_64
  have h := ifn q4 h
  by_cases q5 : x1 = 4
  · have h := ifp q5 h
    refine lv_tableIn (tgt := 65) hx hb dX11_count_1 (by rw [q5]; decide) (by rw [q5]; decide) (by rw [q5]; rfl) (by decide) ?_
    refine lv_aload_n hx hb dX11_count_65 rfl (lv_at hl 0 rfl) ?_
    refine g_X11_45 hF hW dX11_count_66 ?_
    refine g_X11_350 hF hW dX11_count_69 ?_
    obtain rfl := Option.some.inj h
    exact rt_i hF hr hk rfl (fun _ => 0) hW rfl dX11_count_72
  have h := ifn q5 h
  refine lv_tableOut (tgt := 73) hx hb dX11_count_1 (by have := lv_neT (a := 0) q1 (by decide) ; have := lv_neT (a := 1) q2 (by decide) ; have := lv_neT (a := 2) q3 (by decide) ; have := lv_neT (a := 3) q4 (by decide) ; have := lv_neT (a := 4) q5 (by decide); omega) (by decide) ?_
  refine lv_iconst (v := (-1)) hx hb dX11_count_73 (by decide) ?_
  obtain rfl := Option.some.inj h
  exact rt_i hF hr hk rfl (fun _ => 0) hW rfl dX11_count_74
set_option maxRecDepth 100000 in
set_option maxHeartbeats 1000000 in
theorem c_X11_finding (l : Launch) (K : Kx) (a d : Nat → Nat) {M : Mem}  {r0 : Int32} (h : f_X11_finding M = some r0) : CMi l yX11_finding cX11_finding 1 (some .int) ({ frames := 0, cells := 0, slots := 0, locals := 0 } : Room) K [.ref (a 0)] (wC K a d M) (fun _ => wC K a d M) r0 := by
  refine cs_i (by decide +kernel) (Nat.le_of_ble_eq_true rfl) ?_
  intro p e s m args below meth c A ls hF hr hk hnm hW hl
  have hx := hF.1
  have hb := hF.2.1
  have hl : lv_has ls 1 [(0, .ref (a 0))] := hl
  obtain ⟨H, hH⟩ : ∃ z, z = s.heap := ⟨_, rfl⟩
  rw [← hH] at hW ⊢
  unfold f_X11_finding at h
  refine lv_aload_n hx hb dX11_finding_0 rfl (lv_at hl 0 rfl) ?_
  refine g_X11_96 hF hW dX11_finding_1 ?_
  obtain rfl := Option.some.inj h
  exact rt_i hF hr hk rfl (fun _ => 0) hW rfl dX11_finding_4
set_option maxRecDepth 100000 in
set_option maxHeartbeats 1000000 in
theorem c_X11_within (l : Launch) (K : Kx) {ws : va_W} {x0 : Int32} {x1 : Int32} {x2 : Int32} {r0 : Bool} (h : f_X11_within x0 x1 x2 = some r0) : CMi l yX11_within cX11_within 3 (some .boolean) ({ frames := 0, cells := 0, slots := 0, locals := 0 } : Room) K [.int x0, .int x1, .int x2] ws (fun _ => ws) (bI r0) := by
  refine cs_i (by decide +kernel) (Nat.le_of_ble_eq_true rfl) ?_
  intro p e s m args below meth c A ls hF hr hk hnm hW hl
  have hx := hF.1
  have hb := hF.2.1
  have hl : lv_has ls 3 [(0, .int x0), (1, .int x1), (2, .int x2)] := hl
  obtain ⟨H, hH⟩ : ∃ z, z = s.heap := ⟨_, rfl⟩
  rw [← hH] at hW ⊢
  unfold f_X11_within at h
  refine lv_iload_n hx hb dX11_within_0 rfl (lv_at hl 0 rfl) ?_
  refine lv_iload_n hx hb dX11_within_1 rfl (lv_at hl 1 rfl) ?_
  refine lv_icmp_lt (tgt := 14) hx hb dX11_within_2 (by decide) (fun q1 => ?_) (fun q1 => ?_)
  · have h := ifp q1 h
    refine lv_iconst (v := 0) hx hb dX11_within_14 (by decide) ?_
    obtain rfl := Option.some.inj h
    exact rt_i hF hr hk (bI_n false) (fun _ => 0) hW rfl dX11_within_15
  · have h := ifn q1 h
    refine lv_iload_n hx hb dX11_within_5 rfl (lv_at hl 0 rfl) ?_
    refine lv_iload_n hx hb dX11_within_6 rfl (lv_at hl 2 rfl) ?_
    refine lv_icmp_gt (tgt := 14) hx hb dX11_within_7 (by decide) (fun q2 => ?_) (fun q2 => ?_)
    · have h := ifp q2 h
      refine lv_iconst (v := 0) hx hb dX11_within_14 (by decide) ?_
      obtain rfl := Option.some.inj h
      exact rt_i hF hr hk (bI_n false) (fun _ => 0) hW rfl dX11_within_15
    · have h := ifn q2 h
      refine lv_iconst (v := 1) hx hb dX11_within_10 (by decide) ?_
      refine lv_goto (tgt := 15) hx hb dX11_within_11 (by decide) ?_
      obtain rfl := Option.some.inj h
      exact rt_i hF hr hk (bI_n true) (fun _ => 0) hW rfl dX11_within_15
set_option maxRecDepth 100000 in
set_option maxHeartbeats 1000000 in
theorem c_X11_rowNumberFits (l : Launch) (K : Kx) {ws : va_W} {x0 : Int32} {r0 : Bool} (h : f_X11_rowNumberFits x0 = some r0) : CMi l yX11_rowNumberFits cX11_rowNumberFits 1 (some .boolean) ({ frames := 1, cells := 0, slots := 0, locals := 22 } : Room) K [.int x0] ws (fun _ => ws) (bI r0) := by
  refine cs_i (by decide +kernel) (Nat.le_of_ble_eq_true rfl) ?_
  intro p e s m args below meth c A ls hF hr hk hnm hW hl
  have hx := hF.1
  have hb := hF.2.1
  have hl : lv_has ls 1 [(0, .int x0)] := hl
  obtain ⟨H, hH⟩ : ∃ z, z = s.heap := ⟨_, rfl⟩
  rw [← hH] at hW ⊢
  unfold f_X11_rowNumberFits at h
  refine lv_iload_n hx hb dX11_rowNumberFits_0 rfl (lv_at hl 0 rfl) ?_
  refine lv_ldcw hx hb hF.2.2.2.1 (hF.2.2.1 _ ki_X11_421) dX11_rowNumberFits_1 ?_
  refine lv_ldcw hx hb hF.2.2.2.1 (hF.2.2.1 _ ki_X11_422) dX11_rowNumberFits_4 ?_
  obtain ⟨r1, hc3, h⟩ := bq_some h
  refine cS_i (rest := []) hF hW mw_X11_113 (c_X11_within l K hc3) ⟨Nat.le_of_ble_eq_true rfl, Nat.le_of_ble_eq_true rfl⟩ rfl hl.1 rfl (Nat.le_of_ble_eq_true rfl) dX11_rowNumberFits_7 ⟨Nat.le_of_ble_eq_true rfl, Nat.le_of_ble_eq_true rfl⟩ (fun _ H locs hW => ?_)
  obtain rfl := Option.some.inj h
  exact rt_i hF hr hk (bI_n _) (fun _ => 0) hW rfl dX11_rowNumberFits_10
set_option maxRecDepth 100000 in
set_option maxHeartbeats 1000000 in
theorem c_X11_roomFits (l : Launch) (K : Kx) {ws : va_W} {x0 : Int32} {x1 : Int32} {r0 : Bool} (h : f_X11_roomFits x0 x1 = some r0) : CMi l yX11_roomFits cX11_roomFits 2 (some .boolean) ({ frames := 1, cells := 0, slots := 0, locals := 22 } : Room) K [.int x0, .int x1] ws (fun _ => ws) (bI r0) := by
  refine cs_i (by decide +kernel) (Nat.le_of_ble_eq_true rfl) ?_
  intro p e s m args below meth c A ls hF hr hk hnm hW hl
  have hx := hF.1
  have hb := hF.2.1
  have hl : lv_has ls 2 [(0, .int x0), (1, .int x1)] := hl
  obtain ⟨H, hH⟩ : ∃ z, z = s.heap := ⟨_, rfl⟩
  rw [← hH] at hW ⊢
  unfold f_X11_roomFits at h
  refine lv_iload_n hx hb dX11_roomFits_0 rfl (lv_at hl 0 rfl) ?_
  refine lv_iconst (v := 1) hx hb dX11_roomFits_1 (by decide) ?_
  refine lv_bipush (v := 16) hx hb dX11_roomFits_2 (by decide) ?_
  obtain ⟨r1, hc3, h⟩ := bq_some h
  refine cS_i (rest := []) hF hW mw_X11_113 (c_X11_within l K hc3) ⟨Nat.le_of_ble_eq_true rfl, Nat.le_of_ble_eq_true rfl⟩ rfl hl.1 rfl (Nat.le_of_ble_eq_true rfl) dX11_roomFits_4 ⟨Nat.le_of_ble_eq_true rfl, Nat.le_of_ble_eq_true rfl⟩ (fun _ H locs hW => ?_)
  refine lz_eq (tgt := 24) hx hb dX11_roomFits_7 (by decide) (fun q4 => ?_) (fun q4 => ?_)
  · have h := ifn q4 h
    refine lv_iconst (v := 0) hx hb dX11_roomFits_24 (by decide) ?_
    obtain rfl := Option.some.inj h
    exact rt_i hF hr hk (bI_n false) (fun _ => 0) hW rfl dX11_roomFits_25
  · have h := ifp q4 h
    refine lv_iload_n hx hb dX11_roomFits_10 rfl (lv_at hl 1 rfl) ?_
    refine lv_iconst (v := 1) hx hb dX11_roomFits_11 (by decide) ?_
    refine lv_bipush (v := 20) hx hb dX11_roomFits_12 (by decide) ?_
    obtain ⟨r5, hc7, h⟩ := bq_some h
    refine cS_i (rest := []) hF hW mw_X11_113 (c_X11_within l K hc7) ⟨Nat.le_of_ble_eq_true rfl, Nat.le_of_ble_eq_true rfl⟩ rfl hl.1 rfl (Nat.le_of_ble_eq_true rfl) dX11_roomFits_14 ⟨Nat.le_of_ble_eq_true rfl, Nat.le_of_ble_eq_true rfl⟩ (fun _ H locs hW => ?_)
    refine lz_eq (tgt := 24) hx hb dX11_roomFits_17 (by decide) (fun q8 => ?_) (fun q8 => ?_)
    · have h := ifn q8 h
      refine lv_iconst (v := 0) hx hb dX11_roomFits_24 (by decide) ?_
      obtain rfl := Option.some.inj h
      exact rt_i hF hr hk (bI_n false) (fun _ => 0) hW rfl dX11_roomFits_25
    · have h := ifp q8 h
      refine lv_iconst (v := 1) hx hb dX11_roomFits_20 (by decide) ?_
      refine lv_goto (tgt := 25) hx hb dX11_roomFits_21 (by decide) ?_
      obtain rfl := Option.some.inj h
      exact rt_i hF hr hk (bI_n true) (fun _ => 0) hW rfl dX11_roomFits_25
set_option maxRecDepth 100000 in
set_option maxHeartbeats 1000000 in
theorem c_X11_meet (l : Launch) (K : Kx) (a d : Nat → Nat) {M M0 : Mem} {x1 : Int32} {r0 : Int32} (h : f_X11_meet M x1 = some (r0, M0)) : CMi l yX11_meet cX11_meet 2 (some .int) ({ frames := 0, cells := 0, slots := 0, locals := 0 } : Room) K [.ref (a 0), .int x1] (wC K a d M) (fun _ => wC K a d M0) r0 := by
  refine cs_i (by decide +kernel) (Nat.le_of_ble_eq_true rfl) ?_
  intro p e s m args below meth c A ls hF hr hk hnm hW hl
  have hx := hF.1
  have hb := hF.2.1
  have hl : lv_has ls 2 [(0, .ref (a 0)), (1, .int x1)] := hl
  obtain ⟨H, hH⟩ : ∃ z, z = s.heap := ⟨_, rfl⟩
  rw [← hH] at hW ⊢
  unfold f_X11_meet at h
  refine lv_aload_n hx hb dX11_meet_0 rfl (lv_at hl 0 rfl) ?_
  refine lv_iload_n hx hb dX11_meet_1 rfl (lv_at hl 1 rfl) ?_
  refine s_X11_96 (x := x1) hF hW dX11_meet_2 (fun H locs hW => ?_)
  refine lv_aload_n hx hb dX11_meet_5 rfl (lv_at hl 0 rfl) ?_
  refine g_X11_99 hF hW dX11_meet_6 ?_
  refine lv_iload_n hx hb dX11_meet_9 rfl (lv_at hl 1 rfl) ?_
  refine lv_dup2_11 hx hb dX11_meet_10 rfl rfl ?_
  obtain ⟨q1, h⟩ := ck_some h
  refine w_ild hF hW (pC_67 K a d _) q1 dX11_meet_11 ?_
  refine lv_iconst (v := 1) hx hb dX11_meet_12 (by decide) ?_
  refine lv_iadd hx hb dX11_meet_13 ?_
  obtain ⟨q2, h⟩ := ck_some h
  refine w_ist hF hW (pC_67 K a d _) q2 (uC_67 K a d _ _ _) dX11_meet_14 (fun H locs hW => ?_)
  refine lv_bipush (v := (-3)) hx hb dX11_meet_15 (by decide) ?_
  obtain ⟨rfl, rfl⟩ := Prod.mk.inj (Option.some.inj h)
  exact rt_i hF hr hk rfl (fun _ => 0) hW rfl dX11_meet_17
set_option maxRecDepth 100000 in
set_option maxHeartbeats 1000000 in
theorem c_X11_aimsChanged (l : Launch) (K : Kx) (a d : Nat → Nat) {M M0 : Mem}   (h : f_X11_aimsChanged M = some M0) : CMv l yX11_aimsChanged cX11_aimsChanged 1 ({ frames := 0, cells := 0, slots := 0, locals := 0 } : Room) K [.ref (a 0)] (wC K a d M) (fun _ => wC K a d M0) := by
  refine cs_v (by decide +kernel) (Nat.le_of_ble_eq_true rfl) ?_
  intro p e s m args below meth c A ls hF hr hk hnm hW hl
  have hx := hF.1
  have hb := hF.2.1
  have hl : lv_has ls 1 [(0, .ref (a 0))] := hl
  obtain ⟨H, hH⟩ : ∃ z, z = s.heap := ⟨_, rfl⟩
  rw [← hH] at hW ⊢
  unfold f_X11_aimsChanged at h
  refine lv_aload_n hx hb dX11_aimsChanged_0 rfl (lv_at hl 0 rfl) ?_
  refine g_X11_63 hF hW dX11_aimsChanged_1 ?_
  refine lv_iconst (v := 0) hx hb dX11_aimsChanged_4 (by decide) ?_
  refine s_X11_433 (x := false) hF hW dX11_aimsChanged_5 (fun H locs hW => ?_)
  refine lv_aload_n hx hb dX11_aimsChanged_8 rfl (lv_at hl 0 rfl) ?_
  refine g_X11_72 hF hW dX11_aimsChanged_9 ?_
  refine lv_iconst (v := 0) hx hb dX11_aimsChanged_12 (by decide) ?_
  refine s_X11_434 (x := false) hF hW dX11_aimsChanged_13 (fun H locs hW => ?_)
  refine lv_aload_n hx hb dX11_aimsChanged_16 rfl (lv_at hl 0 rfl) ?_
  refine g_X11_81 hF hW dX11_aimsChanged_17 ?_
  refine lv_iconst (v := 0) hx hb dX11_aimsChanged_20 (by decide) ?_
  refine s_X11_435 (x := false) hF hW dX11_aimsChanged_21 (fun H locs hW => ?_)
  obtain rfl := Option.some.inj h
  exact rt_v hF hr hk (fun _ => 0) hW dX11_aimsChanged_24
set_option maxRecDepth 100000 in
set_option maxHeartbeats 1000000 in
theorem c_X11_ordersChanged (l : Launch) (K : Kx) (a d : Nat → Nat) {M M0 : Mem}   (h : f_X11_ordersChanged M = some M0) : CMv l yX11_ordersChanged cX11_ordersChanged 1 ({ frames := 0, cells := 0, slots := 0, locals := 0 } : Room) K [.ref (a 0)] (wC K a d M) (fun _ => wC K a d M0) := by
  refine cs_v (by decide +kernel) (Nat.le_of_ble_eq_true rfl) ?_
  intro p e s m args below meth c A ls hF hr hk hnm hW hl
  have hx := hF.1
  have hb := hF.2.1
  have hl : lv_has ls 1 [(0, .ref (a 0))] := hl
  obtain ⟨H, hH⟩ : ∃ z, z = s.heap := ⟨_, rfl⟩
  rw [← hH] at hW ⊢
  unfold f_X11_ordersChanged at h
  refine lv_aload_n hx hb dX11_ordersChanged_0 rfl (lv_at hl 0 rfl) ?_
  refine g_X11_81 hF hW dX11_ordersChanged_1 ?_
  refine lv_iconst (v := 0) hx hb dX11_ordersChanged_4 (by decide) ?_
  refine s_X11_438 (x := false) hF hW dX11_ordersChanged_5 (fun H locs hW => ?_)
  refine lv_aload_n hx hb dX11_ordersChanged_8 rfl (lv_at hl 0 rfl) ?_
  refine g_X11_81 hF hW dX11_ordersChanged_9 ?_
  refine lv_iconst (v := 0) hx hb dX11_ordersChanged_12 (by decide) ?_
  refine s_X11_435 (x := false) hF hW dX11_ordersChanged_13 (fun H locs hW => ?_)
  refine lv_aload_n hx hb dX11_ordersChanged_16 rfl (lv_at hl 0 rfl) ?_
  refine g_X11_81 hF hW dX11_ordersChanged_17 ?_
  refine lv_iconst (v := 0) hx hb dX11_ordersChanged_20 (by decide) ?_
  refine s_X11_441 (x := false) hF hW dX11_ordersChanged_21 (fun H locs hW => ?_)
  obtain rfl := Option.some.inj h
  exact rt_v hF hr hk (fun _ => 0) hW dX11_ordersChanged_24
set_option maxRecDepth 100000 in
set_option maxHeartbeats 1000000 in
theorem c_X11_turned (l : Launch) (K : Kx) (a d : Nat → Nat) {M M0 : Mem}  {r0 : Int32} (h : f_X11_turned M = some (r0, M0)) : CMi l yX11_turned cX11_turned 1 (some .int) ({ frames := 1, cells := 0, slots := 0, locals := 20 } : Room) K [.ref (a 0)] (wC K a d M) (fun _ => wC K a d M0) r0 := by
  refine cs_i (by decide +kernel) (Nat.le_of_ble_eq_true rfl) ?_
  intro p e s m args below meth c A ls hF hr hk hnm hW hl
  have hx := hF.1
  have hb := hF.2.1
  have hl : lv_has ls 1 [(0, .ref (a 0))] := hl
  obtain ⟨H, hH⟩ : ∃ z, z = s.heap := ⟨_, rfl⟩
  rw [← hH] at hW ⊢
  unfold f_X11_turned at h
  refine lv_aload_n hx hb dX11_turned_0 rfl (lv_at hl 0 rfl) ?_
  obtain ⟨M2, hc3, h⟩ := bm_some h
  refine cV_v (ci := 11) (q0 := 0) (rest := []) hF hW mw_X11_356 (c_X11_ordersChanged l K a d hc3) ⟨Nat.le_of_ble_eq_true rfl, Nat.le_of_ble_eq_true rfl⟩ rfl rfl (pC_0 K a d _) rfl hl.1 rfl (Nat.le_of_ble_eq_true rfl) dX11_turned_1 ⟨Nat.le_of_ble_eq_true rfl, Nat.le_of_ble_eq_true rfl⟩ (fun _ H locs hW => ?_)
  refine lv_iconst (v := 1) hx hb dX11_turned_4 (by decide) ?_
  obtain ⟨rfl, rfl⟩ := Prod.mk.inj (Option.some.inj h)
  exact rt_i hF hr hk rfl (fun _ => 0) hW rfl dX11_turned_5
set_option maxRecDepth 100000 in
set_option maxHeartbeats 1000000 in
theorem c_X11_outcome (l : Launch) (K : Kx) (a d : Nat → Nat) {M : Mem} {x1 : Int32} {x2 : Int64} {x4 : Int64} {r0 : Int64} (h : f_X11_outcome M x1 x2 x4 = some r0) : CMl l yX11_outcome cX11_outcome 7 ({ frames := 0, cells := 0, slots := 0, locals := 0 } : Room) K [.ref (a 0), .int x1, .long x2, .long x4] (wC K a d M) (fun _ => wC K a d M) r0 := by
  refine cs_l (by decide +kernel) (Nat.le_of_ble_eq_true rfl) ?_
  intro p e s m args below meth c A ls hF hr hk hnm hW hl
  have hx := hF.1
  have hb := hF.2.1
  have hl : lv_has ls 7 [(0, .ref (a 0)), (1, .int x1), (2, .long x2), (4, .long x4)] := hl
  obtain ⟨H, hH⟩ : ∃ z, z = s.heap := ⟨_, rfl⟩
  rw [← hH] at hW ⊢
  unfold f_X11_outcome at h
  refine lv_aload_n hx hb dX11_outcome_0 rfl (lv_at hl 0 rfl) ?_
  refine g_X11_19 hF hW dX11_outcome_1 ?_
  refine g_X11_476 hF hW dX11_outcome_4 ?_
  refine lv_iload_n hx hb dX11_outcome_7 rfl (lv_at hl 1 rfl) ?_
  obtain ⟨q1, h⟩ := ck_some h
  refine w_ild hF hW (pC_13 K a d _) q1 dX11_outcome_8 ?_
  refine lv_istore (lv' := [(6, .int (M.1 13 x1.toNatClampNeg)), (0, .ref (a 0)), (1, .int x1), (2, .long x2), (4, .long x4)]) hx hb dX11_outcome_9 hl (by decide) rfl (fun ls hl => ?_)
  refine lv_aload_n hx hb dX11_outcome_11 rfl (lv_at hl 1 rfl) ?_
  refine g_X11_19 hF hW dX11_outcome_12 ?_
  refine g_X11_460 hF hW dX11_outcome_15 ?_
  refine lv_iload_n hx hb dX11_outcome_18 rfl (lv_at hl 2 rfl) ?_
  obtain ⟨q2, h⟩ := ck_some h
  refine w_ild hF hW (pC_12 K a d _) q2 dX11_outcome_19 ?_
  by_cases q3 : (M.1 12 x1.toNatClampNeg) = 0
  · have h := ifp q3 h
    refine lv_tableIn (tgt := 56) hx hb dX11_outcome_20 (by rw [q3]; decide) (by rw [q3]; decide) (by rw [q3]; rfl) (by decide) ?_
    refine lv_lload_n hx hb dX11_outcome_56 rfl (lv_at hl 3 rfl) ?_
    obtain rfl := Option.some.inj h
    exact rt_l hF hr hk (fun _ => 0) hW rfl dX11_outcome_57
  have h := ifn q3 h
  by_cases q4 : (M.1 12 x1.toNatClampNeg) = 1
  · have h := ifp q4 h
    refine lv_tableIn (tgt := 58) hx hb dX11_outcome_20 (by rw [q4]; decide) (by rw [q4]; decide) (by rw [q4]; rfl) (by decide) ?_
    refine lv_lload_n hx hb dX11_outcome_58 rfl (lv_at hl 3 rfl) ?_
    refine lv_lload hx hb dX11_outcome_59 (lv_at hl 4 rfl) ?_
    refine lv_ladd hx hb dX11_outcome_61 ?_
    obtain rfl := Option.some.inj h
    exact rt_l hF hr hk (fun _ => 0) hW rfl dX11_outcome_62
  have h := ifn q4 h
  by_cases q5 : (M.1 12 x1.toNatClampNeg) = 2
  · have h := ifp q5 h
    refine lv_tableIn (tgt := 63) hx hb dX11_outcome_20 (by rw [q5]; decide) (by rw [q5]; decide) (by rw [q5]; rfl) (by decide) ?_
    refine lv_lload_n hx hb dX11_outcome_63 rfl (lv_at hl 3 rfl) ?_
    refine lv_lload hx hb dX11_outcome_64 (lv_at hl 4 rfl) ?_
    refine lv_lmul hx hb dX11_outcome_66 ?_
    obtain rfl := Option.some.inj h
    exact rt_l hF hr hk (fun _ => 0) hW rfl dX11_outcome_67
  have h := ifn q5 h
  by_cases q6 : (M.1 12 x1.toNatClampNeg) = 3
  · have h := ifp q6 h
    refine lv_tableIn (tgt := 68) hx hb dX11_outcome_20 (by rw [q6]; decide) (by rw [q6]; decide) (by rw [q6]; rfl) (by decide) ?_
    refine lv_lload hx hb dX11_outcome_68 (lv_at hl 4 rfl) ?_
    refine lv_lconst (v := 0) hx hb dX11_outcome_70 (by decide) ?_
    refine ll_ne (tgt := 79) hx hb dX11_outcome_71 dX11_outcome_72 (by decide) (fun q7 => ?_) (fun q7 => ?_)
    · have h := ifn q7 h
      refine lv_lload_n hx hb dX11_outcome_79 rfl (lv_at hl 3 rfl) ?_
      refine lv_lload hx hb dX11_outcome_80 (lv_at hl 4 rfl) ?_
      obtain ⟨q8, h⟩ := nzL_some h
      refine lv_ldiv hx hb dX11_outcome_82 q8 ?_
      obtain rfl := Option.some.inj h
      exact rt_l hF hr hk (fun _ => 0) hW rfl dX11_outcome_83
    · have h := ifp q7 h
      refine lv_lconst (v := 0) hx hb dX11_outcome_75 (by decide) ?_
      refine lv_goto (tgt := 83) hx hb dX11_outcome_76 (by decide) ?_
      obtain rfl := Option.some.inj h
      exact rt_l hF hr hk (fun _ => 0) hW rfl dX11_outcome_83
  have h := ifn q6 h
  by_cases q9 : (M.1 12 x1.toNatClampNeg) = 4
  · have h := ifp q9 h
    refine lv_tableIn (tgt := 84) hx hb dX11_outcome_20 (by rw [q9]; decide) (by rw [q9]; decide) (by rw [q9]; rfl) (by decide) ?_
    refine lv_iload hx hb dX11_outcome_84 (lv_at hl 0 rfl) ?_
    refine lv_i2l hx hb dX11_outcome_86 rfl ?_
    obtain rfl := Option.some.inj h
    exact rt_l hF hr hk (fun _ => 0) hW rfl dX11_outcome_87
  have h := ifn q9 h
  refine lv_tableOut (tgt := 88) hx hb dX11_outcome_20 (by have := lv_neT (a := 0) q3 (by decide) ; have := lv_neT (a := 1) q4 (by decide) ; have := lv_neT (a := 2) q5 (by decide) ; have := lv_neT (a := 3) q6 (by decide) ; have := lv_neT (a := 4) q9 (by decide); omega) (by decide) ?_
  refine lv_lload_n hx hb dX11_outcome_88 rfl (lv_at hl 3 rfl) ?_
  refine lv_iload hx hb dX11_outcome_89 (lv_at hl 0 rfl) ?_
  refine lv_i2l hx hb dX11_outcome_91 rfl ?_
  refine lv_ladd hx hb dX11_outcome_92 ?_
  obtain rfl := Option.some.inj h
  exact rt_l hF hr hk (fun _ => 0) hW rfl dX11_outcome_93
set_option maxRecDepth 100000 in
set_option maxHeartbeats 1000000 in
theorem c_X11_endAt (l : Launch) (K : Kx) (a d : Nat → Nat) {M M0 : Mem} {x1 : Int32}  (h : f_X11_endAt M x1 = some M0) : CMv l yX11_endAt cX11_endAt 3 ({ frames := 1, cells := 0, slots := 0, locals := 22 } : Room) K [.ref (a 0), .int x1] (wC K a d M) (fun _ => wC K a d M0) := by
  refine cs_v (by decide +kernel) (Nat.le_of_ble_eq_true rfl) ?_
  intro p e s m args below meth c A ls hF hr hk hnm hW hl
  have hx := hF.1
  have hb := hF.2.1
  have hl : lv_has ls 3 [(0, .ref (a 0)), (1, .int x1)] := hl
  obtain ⟨H, hH⟩ : ∃ z, z = s.heap := ⟨_, rfl⟩
  rw [← hH] at hW ⊢
  have J14 : ∀ (n14 : Nat) (x1 : Int32) (x2 : Int32) (M : Mem) (H : Heap) (locs : List Loc) (ls : Array Slot), f_X11_endAt_14 n14 x1 x2 M = some M0 → Wd K A s (wC K a d M) H locs → lv_has ls 3 [(0, .ref (a 0)), (1, .int x1), (2, .int x2)] → W p l e ({ frames := 1, cells := 0, slots := 0, locals := 22 } : Room) s m args below meth c H locs 0 0 (EndV K A (fun _ => wC K a d M0) below args s ({ frames := 1, cells := 0, slots := 0, locals := 22 } : Room)) (F0 m 14 ls []) := by
    intro n14
    induction n14 with
    | zero => intro x1 x2 M H locs ls h; exact absurd h (by simp [f_X11_endAt_14])
    | succ n14 ih14 =>
      intro x1 x2 M H locs ls h hW hl
      rw [f_X11_endAt_14] at h
      refine lv_iload_n hx hb dX11_endAt_14 rfl (lv_at hl 2 rfl) ?_
      refine lv_iconst (v := 4) hx hb dX11_endAt_15 (by decide) ?_
      refine lv_icmp_ge (tgt := 40) hx hb dX11_endAt_16 (by decide) (fun q4 => ?_) (fun q4 => ?_)
      · have h := ifp q4 h
        obtain rfl := Option.some.inj h
        exact rt_v hF hr hk (fun _ => 0) hW dX11_endAt_40
      · have h := ifn q4 h
        refine lv_aload_n hx hb dX11_endAt_19 rfl (lv_at hl 0 rfl) ?_
        refine g_X11_109 hF hW dX11_endAt_20 ?_
        refine lv_iload_n hx hb dX11_endAt_23 rfl (lv_at hl 2 rfl) ?_
        refine lv_aload_n hx hb dX11_endAt_24 rfl (lv_at hl 0 rfl) ?_
        refine g_X11_54 hF hW dX11_endAt_25 ?_
        refine lv_iload_n hx hb dX11_endAt_28 rfl (lv_at hl 1 rfl) ?_
        refine lv_iload_n hx hb dX11_endAt_29 rfl (lv_at hl 2 rfl) ?_
        obtain ⟨r5, hc7, h⟩ := bq_some h
        refine cV_l (ci := 0) (q0 := 34) (rest := [.int x2, .ref (a 68)]) hF hW mw_X11_258 (c_X0_letter l K a d hc7) ⟨Nat.le_of_ble_eq_true rfl, Nat.le_of_ble_eq_true rfl⟩ rfl rfl (pC_34 K a d _) rfl hl.1 rfl (Nat.le_of_ble_eq_true rfl) dX11_endAt_30 ⟨Nat.le_of_ble_eq_true rfl, Nat.le_of_ble_eq_true rfl⟩ (fun _ H locs hW => ?_)
        obtain ⟨q8, h⟩ := ck_some h
        refine w_lst hF hW (pC_68 K a d _) q8 (uC_68 K a d _ _ _) dX11_endAt_33 (fun H locs hW => ?_)
        refine lv_iinc (v := (x2 + 1)) (lv' := [(2, .int (x2 + 1)), (0, .ref (a 0)), (1, .int x1)]) hx hb dX11_endAt_34 hl (k := 2) rfl rfl (by decide) rfl (fun ls hl => ?_)
        refine lv_goto (tgt := 14) hx hb dX11_endAt_37 (by decide) ?_
        exact ih14 x1 (x2 + 1) _ _ _ _ h hW (lv_sub hl [1, 2, 0] rfl)
  unfold f_X11_endAt at h
  refine lv_aload_n hx hb dX11_endAt_0 rfl (lv_at hl 0 rfl) ?_
  refine lv_aload_n hx hb dX11_endAt_1 rfl (lv_at hl 0 rfl) ?_
  refine g_X11_54 hF hW dX11_endAt_2 ?_
  refine lv_iload_n hx hb dX11_endAt_5 rfl (lv_at hl 1 rfl) ?_
  obtain ⟨r1, hc3, h⟩ := bq_some h
  refine cV_i (ci := 0) (q0 := 34) (rest := [.ref (a 0)]) hF hW mw_X11_253 (c_X0_actNode l K a d hc3) ⟨Nat.le_of_ble_eq_true rfl, Nat.le_of_ble_eq_true rfl⟩ rfl rfl (pC_34 K a d _) rfl hl.1 rfl (Nat.le_of_ble_eq_true rfl) dX11_endAt_6 ⟨Nat.le_of_ble_eq_true rfl, Nat.le_of_ble_eq_true rfl⟩ (fun _ H locs hW => ?_)
  refine s_X11_106 (x := r1) hF hW dX11_endAt_9 (fun H locs hW => ?_)
  refine lv_iconst (v := 0) hx hb dX11_endAt_12 (by decide) ?_
  refine lv_istore_n (lv' := [(2, .int 0), (0, .ref (a 0)), (1, .int x1)]) hx hb dX11_endAt_13 rfl hl (by decide) rfl (fun ls hl => ?_)
  exact J14 100000 x1 0 _ _ _ _ h hW (lv_sub hl [1, 2, 0] rfl)
