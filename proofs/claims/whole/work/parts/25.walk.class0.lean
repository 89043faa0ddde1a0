set_option maxRecDepth 100000 in
set_option maxHeartbeats 1000000 in
theorem c_X0_addVisit (l : Launch) (K : Kx) (a d : Nat → Nat) {M M0 : Mem} {x1 : Int32}  (h : f_X0_addVisit M x1 = some M0) : CMv l yX0_addVisit cX0_addVisit 2 ({ frames := 1, cells := 0, slots := 0, locals := 60 } : Room) K [.ref (a 34), .int x1] (wC K a d M) (fun _ => wC K a d M0) := by
  refine cs_v (by decide +kernel) (Nat.le_of_ble_eq_true rfl) ?_
  intro p e s m args below meth c A ls hF hr hk hnm hW hl
  have hx := hF.1
  have hb := hF.2.1
  have hl : lv_has ls 2 [(0, .ref (a 34)), (1, .int x1)] := hl
  obtain ⟨H, hH⟩ : ∃ z, z = s.heap := ⟨_, rfl⟩
  rw [← hH] at hW ⊢
  unfold f_X0_addVisit at h
  refine lv_aload_n hx hb dX0_addVisit_0 rfl (lv_at hl 0 rfl) ?_
  refine g_X0_22 hF hW dX0_addVisit_1 ?_
  refine lv_sipush (v := 400) hx hb dX0_addVisit_4 (by decide) ?_
  refine lv_icmp_lt (tgt := 16) hx hb dX0_addVisit_7 (by decide) (fun q1 => ?_) (fun q1 => ?_)
  · have h := ifp q1 h
    refine lv_aload_n hx hb dX0_addVisit_16 rfl (lv_at hl 0 rfl) ?_
    refine g_X0_9 hF hW dX0_addVisit_17 ?_
    refine lv_aload_n hx hb dX0_addVisit_20 rfl (lv_at hl 0 rfl) ?_
    refine g_X0_22 hF hW dX0_addVisit_21 ?_
    refine lv_iload_n hx hb dX0_addVisit_24 rfl (lv_at hl 1 rfl) ?_
    obtain ⟨q2, h⟩ := ck_some h
    refine w_ist hF hW (pC_35 K a d _) q2 (uC_35 K a d _ _ _) dX0_addVisit_25 (fun H locs hW => ?_)
    refine lv_aload_n hx hb dX0_addVisit_26 rfl (lv_at hl 0 rfl) ?_
    refine g_X0_19 hF hW dX0_addVisit_27 ?_
    refine lv_iconst (v := 0) hx hb dX0_addVisit_30 (by decide) ?_
    refine lv_aload_n hx hb dX0_addVisit_31 rfl (lv_at hl 0 rfl) ?_
    refine g_X0_15 hF hW dX0_addVisit_32 ?_
    refine lv_aload_n hx hb dX0_addVisit_35 rfl (lv_at hl 0 rfl) ?_
    refine g_X0_22 hF hW dX0_addVisit_36 ?_
    refine lv_iconst (v := 4) hx hb dX0_addVisit_39 (by decide) ?_
    refine lv_imul hx hb dX0_addVisit_40 ?_
    refine lv_iconst (v := 4) hx hb dX0_addVisit_41 (by decide) ?_
    obtain ⟨q3, h⟩ := ca_some h
    refine w_cpyl (rest := []) hF hW al_X0_97 ac_n ac_s ac_i (pC_37 K a d _) (pC_36 K a d _) q3 (vC_36 K a d _ _) hl.1 (Nat.le_of_ble_eq_true rfl) (Nat.le_of_ble_eq_true rfl) dX0_addVisit_42 (fun H locs hW => ?_)
    refine lv_aload_n hx hb dX0_addVisit_45 rfl (lv_at hl 0 rfl) ?_
    refine lv_dup hx hb dX0_addVisit_46 rfl ?_
    refine g_X0_22 hF hW dX0_addVisit_47 ?_
    refine lv_iconst (v := 1) hx hb dX0_addVisit_50 (by decide) ?_
    refine lv_iadd hx hb dX0_addVisit_51 ?_
    refine s_X0_22 (x := (((yL (sI M 35 (M.1 110 0).toNatClampNeg x1) 37 (0 : Int32).toNatClampNeg 36 (((sI M 35 (M.1 110 0).toNatClampNeg x1).1 110 0) * 4).toNatClampNeg (4 : Int32).toNatClampNeg).1 110 0) + 1)) hF hW dX0_addVisit_52 (fun H locs hW => ?_)
    obtain rfl := Option.some.inj h
    exact rt_v hF hr hk (fun _ => 0) hW dX0_addVisit_55
  · have h := ifn q1 h
    refine lv_aload_n hx hb dX0_addVisit_10 rfl (lv_at hl 0 rfl) ?_
    refine lv_iconst (v := 1) hx hb dX0_addVisit_11 (by decide) ?_
    refine s_X0_29 (x := true) hF hW dX0_addVisit_12 (fun H locs hW => ?_)
    obtain rfl := Option.some.inj h
    exact rt_v hF hr hk (fun _ => 0) hW dX0_addVisit_15
set_option maxRecDepth 100000 in
set_option maxHeartbeats 1000000 in
theorem c_X0_actNode (l : Launch) (K : Kx) (a d : Nat → Nat) {M : Mem} {x1 : Int32} {r0 : Int32} (h : f_X0_actNode M x1 = some r0) : CMi l yX0_actNode cX0_actNode 2 (some .int) ({ frames := 0, cells := 0, slots := 0, locals := 0 } : Room) K [.ref (a 34), .int x1] (wC K a d M) (fun _ => wC K a d M) r0 := by
  refine cs_i (by decide +kernel) (Nat.le_of_ble_eq_true rfl) ?_
  intro p e s m args below meth c A ls hF hr hk hnm hW hl
  have hx := hF.1
  have hb := hF.2.1
  have hl : lv_has ls 2 [(0, .ref (a 34)), (1, .int x1)] := hl
  obtain ⟨H, hH⟩ : ∃ z, z = s.heap := ⟨_, rfl⟩
  rw [← hH] at hW ⊢
  unfold f_X0_actNode at h
  refine lv_aload_n hx hb dX0_actNode_0 rfl (lv_at hl 0 rfl) ?_
  refine g_X0_40 hF hW dX0_actNode_1 ?_
  refine g_X0_103 hF hW dX0_actNode_4 ?_
  refine lv_aload_n hx hb dX0_actNode_7 rfl (lv_at hl 0 rfl) ?_
  refine g_X0_9 hF hW dX0_actNode_8 ?_
  refine lv_iload_n hx hb dX0_actNode_11 rfl (lv_at hl 1 rfl) ?_
  obtain ⟨q1, h⟩ := ck_some h
  refine w_ild hF hW (pC_35 K a d _) q1 dX0_actNode_12 ?_
  obtain ⟨q2, h⟩ := ck_some h
  refine w_ild hF hW (pC_16 K a d _) q2 dX0_actNode_13 ?_
  obtain rfl := Option.some.inj h
  exact rt_i hF hr hk rfl (fun _ => 0) hW rfl dX0_actNode_14
set_option maxRecDepth 100000 in
set_option maxHeartbeats 1000000 in
theorem c_X0_letter (l : Launch) (K : Kx) (a d : Nat → Nat) {M : Mem} {x1 : Int32} {x2 : Int32} {r0 : Int64} (h : f_X0_letter M x1 x2 = some r0) : CMl l yX0_letter cX0_letter 3 ({ frames := 0, cells := 0, slots := 0, locals := 0 } : Room) K [.ref (a 34), .int x1, .int x2] (wC K a d M) (fun _ => wC K a d M) r0 := by
  refine cs_l (by decide +kernel) (Nat.le_of_ble_eq_true rfl) ?_
  intro p e s m args below meth c A ls hF hr hk hnm hW hl
  have hx := hF.1
  have hb := hF.2.1
  have hl : lv_has ls 3 [(0, .ref (a 34)), (1, .int x1), (2, .int x2)] := hl
  obtain ⟨H, hH⟩ : ∃ z, z = s.heap := ⟨_, rfl⟩
  rw [← hH] at hW ⊢
  unfold f_X0_letter at h
  refine lv_aload_n hx hb dX0_letter_0 rfl (lv_at hl 0 rfl) ?_
  refine g_X0_15 hF hW dX0_letter_1 ?_
  refine lv_iload_n hx hb dX0_letter_4 rfl (lv_at hl 1 rfl) ?_
  refine lv_iconst (v := 4) hx hb dX0_letter_5 (by decide) ?_
  refine lv_imul hx hb dX0_letter_6 ?_
  refine lv_iload_n hx hb dX0_letter_7 rfl (lv_at hl 2 rfl) ?_
  refine lv_iadd hx hb dX0_letter_8 ?_
  obtain ⟨q1, h⟩ := ck_some h
  refine w_lld hF hW (pC_36 K a d _) q1 dX0_letter_9 ?_
  obtain rfl := Option.some.inj h
  exact rt_l hF hr hk (fun _ => 0) hW rfl dX0_letter_10
set_option maxRecDepth 100000 in
set_option maxHeartbeats 1000000 in
theorem c_X0_isAt (l : Launch) (K : Kx) (a d : Nat → Nat) {M : Mem} {x1 : Int32} {x2 : Int32} {x3 : Int32} {x4 : Int32} {x5 : Int32} {r0 : Bool} (h : f_X0_isAt M x1 x2 x3 x4 x5 = some r0) : CMi l yX0_isAt cX0_isAt 6 (some .boolean) ({ frames := 1, cells := 0, slots := 0, locals := 22 } : Room) K [.ref (a 34), .int x1, .int x2, .int x3, .int x4, .int x5] (wC K a d M) (fun _ => wC K a d M) (bI r0) := by
  refine cs_i (by decide +kernel) (Nat.le_of_ble_eq_true rfl) ?_
  intro p e s m args below meth c A ls hF hr hk hnm hW hl
  have hx := hF.1
  have hb := hF.2.1
  have hl : lv_has ls 6 [(0, .ref (a 34)), (1, .int x1), (2, .int x2), (3, .int x3), (4, .int x4), (5, .int x5)] := hl
  obtain ⟨H, hH⟩ : ∃ z, z = s.heap := ⟨_, rfl⟩
  rw [← hH] at hW ⊢
  unfold f_X0_isAt at h
  refine lv_aload_n hx hb dX0_isAt_0 rfl (lv_at hl 0 rfl) ?_
  refine lv_iload_n hx hb dX0_isAt_1 rfl (lv_at hl 1 rfl) ?_
  refine lv_iconst (v := 0) hx hb dX0_isAt_2 (by decide) ?_
  obtain ⟨r1, hc3, h⟩ := bq_some h
  refine cV_l (ci := 0) (q0 := 34) (rest := []) hF hW mw_X0_106 (c_X0_letter l K a d hc3) ⟨Nat.le_of_ble_eq_true rfl, Nat.le_of_ble_eq_true rfl⟩ rfl rfl (pC_34 K a d _) rfl hl.1 rfl (Nat.le_of_ble_eq_true rfl) dX0_isAt_3 ⟨Nat.le_of_ble_eq_true rfl, Nat.le_of_ble_eq_true rfl⟩ (fun _ H locs hW => ?_)
  refine lv_iload_n hx hb dX0_isAt_6 rfl (lv_at hl 2 rfl) ?_
  refine lv_i2l hx hb dX0_isAt_7 rfl ?_
  refine ll_ne (tgt := 54) hx hb dX0_isAt_8 dX0_isAt_9 (by decide) (fun q4 => ?_) (fun q4 => ?_)
  · have h := ifn q4 h
    refine lv_iconst (v := 0) hx hb dX0_isAt_54 (by decide) ?_
    obtain rfl := Option.some.inj h
    exact rt_i hF hr hk (bI_n false) (fun _ => 0) hW rfl dX0_isAt_55
  · have h := ifp q4 h
    refine lv_aload_n hx hb dX0_isAt_12 rfl (lv_at hl 0 rfl) ?_
    refine lv_iload_n hx hb dX0_isAt_13 rfl (lv_at hl 1 rfl) ?_
    refine lv_iconst (v := 1) hx hb dX0_isAt_14 (by decide) ?_
    obtain ⟨r5, hc7, h⟩ := bq_some h
    refine cV_l (ci := 0) (q0 := 34) (rest := []) hF hW mw_X0_106 (c_X0_letter l K a d hc7) ⟨Nat.le_of_ble_eq_true rfl, Nat.le_of_ble_eq_true rfl⟩ rfl rfl (pC_34 K a d _) rfl hl.1 rfl (Nat.le_of_ble_eq_true rfl) dX0_isAt_15 ⟨Nat.le_of_ble_eq_true rfl, Nat.le_of_ble_eq_true rfl⟩ (fun _ H locs hW => ?_)
    refine lv_iload_n hx hb dX0_isAt_18 rfl (lv_at hl 3 rfl) ?_
    refine lv_i2l hx hb dX0_isAt_19 rfl ?_
    refine ll_ne (tgt := 54) hx hb dX0_isAt_20 dX0_isAt_21 (by decide) (fun q8 => ?_) (fun q8 => ?_)
    · have h := ifn q8 h
      refine lv_iconst (v := 0) hx hb dX0_isAt_54 (by decide) ?_
      obtain rfl := Option.some.inj h
      exact rt_i hF hr hk (bI_n false) (fun _ => 0) hW rfl dX0_isAt_55
    · have h := ifp q8 h
      refine lv_aload_n hx hb dX0_isAt_24 rfl (lv_at hl 0 rfl) ?_
      refine lv_iload_n hx hb dX0_isAt_25 rfl (lv_at hl 1 rfl) ?_
      refine lv_iconst (v := 2) hx hb dX0_isAt_26 (by decide) ?_
      obtain ⟨r9, hc11, h⟩ := bq_some h
      refine cV_l (ci := 0) (q0 := 34) (rest := []) hF hW mw_X0_106 (c_X0_letter l K a d hc11) ⟨Nat.le_of_ble_eq_true rfl, Nat.le_of_ble_eq_true rfl⟩ rfl rfl (pC_34 K a d _) rfl hl.1 rfl (Nat.le_of_ble_eq_true rfl) dX0_isAt_27 ⟨Nat.le_of_ble_eq_true rfl, Nat.le_of_ble_eq_true rfl⟩ (fun _ H locs hW => ?_)
      refine lv_iload hx hb dX0_isAt_30 (lv_at hl 4 rfl) ?_
      refine lv_i2l hx hb dX0_isAt_32 rfl ?_
      refine ll_ne (tgt := 54) hx hb dX0_isAt_33 dX0_isAt_34 (by decide) (fun q12 => ?_) (fun q12 => ?_)
      · have h := ifn q12 h
        refine lv_iconst (v := 0) hx hb dX0_isAt_54 (by decide) ?_
        obtain rfl := Option.some.inj h
        exact rt_i hF hr hk (bI_n false) (fun _ => 0) hW rfl dX0_isAt_55
      · have h := ifp q12 h
        refine lv_aload_n hx hb dX0_isAt_37 rfl (lv_at hl 0 rfl) ?_
        refine lv_iload_n hx hb dX0_isAt_38 rfl (lv_at hl 1 rfl) ?_
        refine lv_iconst (v := 3) hx hb dX0_isAt_39 (by decide) ?_
        obtain ⟨r13, hc15, h⟩ := bq_some h
        refine cV_l (ci := 0) (q0 := 34) (rest := []) hF hW mw_X0_106 (c_X0_letter l K a d hc15) ⟨Nat.le_of_ble_eq_true rfl, Nat.le_of_ble_eq_true rfl⟩ rfl rfl (pC_34 K a d _) rfl hl.1 rfl (Nat.le_of_ble_eq_true rfl) dX0_isAt_40 ⟨Nat.le_of_ble_eq_true rfl, Nat.le_of_ble_eq_true rfl⟩ (fun _ H locs hW => ?_)
        refine lv_iload hx hb dX0_isAt_43 (lv_at hl 5 rfl) ?_
        refine lv_i2l hx hb dX0_isAt_45 rfl ?_
        refine ll_ne (tgt := 54) hx hb dX0_isAt_46 dX0_isAt_47 (by decide) (fun q16 => ?_) (fun q16 => ?_)
        · have h := ifn q16 h
          refine lv_iconst (v := 0) hx hb dX0_isAt_54 (by decide) ?_
          obtain rfl := Option.some.inj h
          exact rt_i hF hr hk (bI_n false) (fun _ => 0) hW rfl dX0_isAt_55
        · have h := ifp q16 h
          refine lv_iconst (v := 1) hx hb dX0_isAt_50 (by decide) ?_
          refine lv_goto (tgt := 55) hx hb dX0_isAt_51 (by decide) ?_
          obtain rfl := Option.some.inj h
          exact rt_i hF hr hk (bI_n true) (fun _ => 0) hW rfl dX0_isAt_55
set_option maxRecDepth 100000 in
set_option maxHeartbeats 1000000 in
theorem c_X0_step (l : Launch) (K : Kx) (a d : Nat → Nat) {M : Mem} {x1 : Int32} {x2 : Int32} {x3 : Int32} {r0 : Int64} (h : f_X0_step M x1 x2 x3 = some r0) : CMl l yX0_step cX0_step 4 ({ frames := 0, cells := 0, slots := 0, locals := 0 } : Room) K [.ref (a 34), .int x1, .int x2, .int x3] (wC K a d M) (fun _ => wC K a d M) r0 := by
  refine cs_l (by decide +kernel) (Nat.le_of_ble_eq_true rfl) ?_
  intro p e s m args below meth c A ls hF hr hk hnm hW hl
  have hx := hF.1
  have hb := hF.2.1
  have hl : lv_has ls 4 [(0, .ref (a 34)), (1, .int x1), (2, .int x2), (3, .int x3)] := hl
  obtain ⟨H, hH⟩ : ∃ z, z = s.heap := ⟨_, rfl⟩
  rw [← hH] at hW ⊢
  unfold f_X0_step at h
  refine lv_aload_n hx hb dX0_step_0 rfl (lv_at hl 0 rfl) ?_
  refine g_X0_15 hF hW dX0_step_1 ?_
  refine lv_iload_n hx hb dX0_step_4 rfl (lv_at hl 2 rfl) ?_
  refine lv_iconst (v := 4) hx hb dX0_step_5 (by decide) ?_
  refine lv_imul hx hb dX0_step_6 ?_
  refine lv_iload_n hx hb dX0_step_7 rfl (lv_at hl 3 rfl) ?_
  refine lv_iadd hx hb dX0_step_8 ?_
  obtain ⟨q1, h⟩ := ck_some h
  refine w_lld hF hW (pC_36 K a d _) q1 dX0_step_9 ?_
  refine lv_aload_n hx hb dX0_step_10 rfl (lv_at hl 0 rfl) ?_
  refine g_X0_15 hF hW dX0_step_11 ?_
  refine lv_iload_n hx hb dX0_step_14 rfl (lv_at hl 1 rfl) ?_
  refine lv_iconst (v := 4) hx hb dX0_step_15 (by decide) ?_
  refine lv_imul hx hb dX0_step_16 ?_
  refine lv_iload_n hx hb dX0_step_17 rfl (lv_at hl 3 rfl) ?_
  refine lv_iadd hx hb dX0_step_18 ?_
  obtain ⟨q2, h⟩ := ck_some h
  refine w_lld hF hW (pC_36 K a d _) q2 dX0_step_19 ?_
  refine lv_lsub hx hb dX0_step_20 ?_
  obtain rfl := Option.some.inj h
  exact rt_l hF hr hk (fun _ => 0) hW rfl dX0_step_21
set_option maxRecDepth 100000 in
set_option maxHeartbeats 1000000 in
theorem c_X1_linkReader (l : Launch) (K : Kx) (a d : Nat → Nat) {M M0 : Mem} {x1 : Int32} {x2 : Int32}  (h : f_X1_linkReader M x1 x2 = some M0) : CMv l yX1_linkReader cX1_linkReader 3 ({ frames := 0, cells := 0, slots := 0, locals := 0 } : Room) K [.ref (a 43), .int x1, .int x2] (wC K a d M) (fun _ => wC K a d M0) := by
  refine cs_v (by decide +kernel) (Nat.le_of_ble_eq_true rfl) ?_
  intro p e s m args below meth c A ls hF hr hk hnm hW hl
  have hx := hF.1
  have hb := hF.2.1
  have hl : lv_has ls 3 [(0, .ref (a 43)), (1, .int x1), (2, .int x2)] := hl
  obtain ⟨H, hH⟩ : ∃ z, z = s.heap := ⟨_, rfl⟩
  rw [← hH] at hW ⊢
  unfold f_X1_linkReader at h
  refine lv_iload_n hx hb dX1_linkReader_0 rfl (lv_at hl 1 rfl) ?_
  refine lv_if_ge (tgt := 5) hx hb dX1_linkReader_1 (by decide) (fun q1 => ?_) (fun q1 => ?_)
  · have h := ifp q1 h
    refine lv_aload_n hx hb dX1_linkReader_5 rfl (lv_at hl 0 rfl) ?_
    refine g_X1_43 hF hW dX1_linkReader_6 ?_
    refine lv_iload_n hx hb dX1_linkReader_9 rfl (lv_at hl 2 rfl) ?_
    refine lv_aload_n hx hb dX1_linkReader_10 rfl (lv_at hl 0 rfl) ?_
    refine g_X1_40 hF hW dX1_linkReader_11 ?_
    refine lv_iload_n hx hb dX1_linkReader_14 rfl (lv_at hl 1 rfl) ?_
    obtain ⟨q2, h⟩ := ck_some h
    refine w_ild hF hW (pC_53 K a d _) q2 dX1_linkReader_15 ?_
    obtain ⟨q3, h⟩ := ck_some h
    refine w_ist hF hW (pC_54 K a d _) q3 (uC_54 K a d _ _ _) dX1_linkReader_16 (fun H locs hW => ?_)
    refine lv_aload_n hx hb dX1_linkReader_17 rfl (lv_at hl 0 rfl) ?_
    refine g_X1_40 hF hW dX1_linkReader_18 ?_
    refine lv_iload_n hx hb dX1_linkReader_21 rfl (lv_at hl 1 rfl) ?_
    refine lv_iload_n hx hb dX1_linkReader_22 rfl (lv_at hl 2 rfl) ?_
    obtain ⟨q4, h⟩ := ck_some h
    refine w_ist hF hW (pC_53 K a d _) q4 (uC_53 K a d _ _ _) dX1_linkReader_23 (fun H locs hW => ?_)
    obtain rfl := Option.some.inj h
    exact rt_v hF hr hk (fun _ => 0) hW dX1_linkReader_24
  · have h := ifn q1 h
    obtain rfl := Option.some.inj h
    exact rt_v hF hr hk (fun _ => 0) hW dX1_linkReader_4
set_option maxRecDepth 100000 in
set_option maxHeartbeats 1000000 in
theorem c_X1_addNeed (l : Launch) (K : Kx) (a d : Nat → Nat) {M M0 : Mem} {x1 : Int32} {x2 : Int32} {x3 : Int32}  (h : f_X1_addNeed M x1 x2 x3 = some M0) : CMv l yX1_addNeed cX1_addNeed 12 ({ frames := 1, cells := 0, slots := 0, locals := 23 } : Room) K [.ref (a 43), .int x1, .int x2, .int x3] (wC K a d M) (fun _ => wC K a d M0) := by
  refine cs_v (by decide +kernel) (Nat.le_of_ble_eq_true rfl) ?_
  intro p e s m args below meth c A ls hF hr hk hnm hW hl
  have hx := hF.1
  have hb := hF.2.1
  have hl : lv_has ls 12 [(0, .ref (a 43)), (1, .int x1), (2, .int x2), (3, .int x3)] := hl
  obtain ⟨H, hH⟩ : ∃ z, z = s.heap := ⟨_, rfl⟩
  rw [← hH] at hW ⊢
  have J59 : ∀ (n59 : Nat) (x1 : Int32) (x2 : Int32) (x3 : Int32) (x4 : Int32) (x6 : Bool) (x7 : Int32) (x8 : Int32) (M : Mem) (H : Heap) (locs : List Loc) (ls : Array Slot), f_X1_addNeed_59 n59 x1 x2 x3 x4 x6 x7 x8 M = some M0 → Wd K A s (wC K a d M) H locs → lv_has ls 12 [(0, .ref (a 43)), (1, .int x1), (2, .int x2), (3, .int x3), (4, .int x4), (6, .int (bI x6)), (7, .int x7), (8, .int x8)] → W p l e ({ frames := 1, cells := 0, slots := 0, locals := 23 } : Room) s m args below meth c H locs 0 0 (EndV K A (fun _ => wC K a d M0) below args s ({ frames := 1, cells := 0, slots := 0, locals := 23 } : Room)) (F0 m 59 ls []) := by
    intro n59
    induction n59 with
    | zero => intro x1 x2 x3 x4 x6 x7 x8 M H locs ls h; exact absurd h (by simp [f_X1_addNeed_59])
    | succ n59 ih59 =>
      have J88 : ∀ (x1 : Int32) (x2 : Int32) (x3 : Int32) (x4 : Int32) (x6 : Bool) (x7 : Int32) (x8 : Int32) (x9 : Int64) (M : Mem) (H : Heap) (locs : List Loc) (ls : Array Slot), f_X1_addNeed_88 (f_X1_addNeed_59 n59) x1 x2 x3 x4 x6 x7 x8 x9 M = some M0 → Wd K A s (wC K a d M) H locs → lv_has ls 12 [(0, .ref (a 43)), (1, .int x1), (2, .int x2), (3, .int x3), (4, .int x4), (6, .int (bI x6)), (7, .int x7), (8, .int x8), (9, .long x9)] → W p l e ({ frames := 1, cells := 0, slots := 0, locals := 23 } : Room) s m args below meth c H locs 0 0 (EndV K A (fun _ => wC K a d M0) below args s ({ frames := 1, cells := 0, slots := 0, locals := 23 } : Room)) (F0 m 88 ls []) := by
        have J125 : ∀ (x1 : Int32) (x2 : Int32) (x3 : Int32) (x4 : Int32) (x6 : Bool) (x7 : Int32) (x8 : Int32) (x9 : Int64) (x11 : Int32) (s1 : Int32) (s2 : Int64) (M : Mem) (H : Heap) (locs : List Loc) (ls : Array Slot), f_X1_addNeed_125 (f_X1_addNeed_59 n59) x1 x2 x3 x4 x6 x7 x8 x9 x11 s1 s2 M = some M0 → Wd K A s (wC K a d M) H locs → lv_has ls 12 [(0, .ref (a 43)), (1, .int x1), (2, .int x2), (3, .int x3), (4, .int x4), (6, .int (bI x6)), (7, .int x7), (8, .int x8), (9, .long x9), (11, .int x11)] → W p l e ({ frames := 1, cells := 0, slots := 0, locals := 23 } : Room) s m args below meth c H locs 0 0 (EndV K A (fun _ => wC K a d M0) below args s ({ frames := 1, cells := 0, slots := 0, locals := 23 } : Room)) (F0 m 125 ls [.long s2, .int s1, .ref (a 49)]) := by
          intro x1 x2 x3 x4 x6 x7 x8 x9 x11 s1 s2 M H locs ls h hW hl
          unfold f_X1_addNeed_125 at h
          obtain ⟨q24, h⟩ := ck_some h
          refine w_lst hF hW (pC_49 K a d _) q24 (uC_49 K a d _ _ _) dX1_addNeed_125 (fun H locs hW => ?_)
          refine lv_aload_n hx hb dX1_addNeed_126 rfl (lv_at hl 0 rfl) ?_
          refine g_X1_31 hF hW dX1_addNeed_127 ?_
          refine lv_iload hx hb dX1_addNeed_130 (lv_at hl 9 rfl) ?_
          refine lv_iload hx hb dX1_addNeed_132 (lv_at hl 5 rfl) ?_
          refine lz_eq (tgt := 142) hx hb dX1_addNeed_134 (by decide) (fun q25 => ?_) (fun q25 => ?_)
          · have h := ifn q25 h
            refine lv_aload_n hx hb dX1_addNeed_142 rfl (lv_at hl 0 rfl) ?_
            refine g_X1_31 hF hW dX1_addNeed_143 ?_
            refine lv_iload hx hb dX1_addNeed_146 (lv_at hl 9 rfl) ?_
            obtain ⟨q26, h⟩ := ck_some h
            refine w_lld hF hW (pC_50 K a d _) q26 dX1_addNeed_148 ?_
            refine lv_lload hx hb dX1_addNeed_149 (lv_at hl 8 rfl) ?_
            obtain ⟨r27, hc29, h⟩ := bq_some h
            refine cS_l (rest := [.int x11, .ref (a 50)]) hF hW mw_X1_136 (c_J9_max_f86c9 l K hc29) ⟨Nat.le_of_ble_eq_true rfl, Nat.le_of_ble_eq_true rfl⟩ rfl hl.1 rfl (Nat.le_of_ble_eq_true rfl) dX1_addNeed_151 ⟨Nat.le_of_ble_eq_true rfl, Nat.le_of_ble_eq_true rfl⟩ (fun _ H locs hW => ?_)
            obtain ⟨q30, h⟩ := ck_some h
            refine w_lst hF hW (pC_50 K a d _) q30 (uC_50 K a d _ _ _) dX1_addNeed_154 (fun H locs hW => ?_)
            refine lv_iinc (v := (x8 + (-1))) (lv' := [(8, .int (x8 + (-1))), (0, .ref (a 43)), (1, .int x1), (2, .int x2), (3, .int x3), (4, .int x4), (6, .int (bI x6)), (7, .int x7), (9, .long x9), (11, .int x11)]) hx hb dX1_addNeed_155 hl (k := 7) rfl rfl (by decide) rfl (fun ls hl => ?_)
            refine lv_goto (tgt := 59) hx hb dX1_addNeed_158 (by decide) ?_
            exact ih59 x1 x2 x3 x4 x6 x7 (x8 + (-1)) _ _ _ _ h hW (lv_sub hl [1, 2, 3, 4, 5, 6, 7, 0] rfl)
          · have h := ifp q25 h
            refine lv_lload hx hb dX1_addNeed_137 (lv_at hl 8 rfl) ?_
            refine lv_goto (tgt := 154) hx hb dX1_addNeed_139 (by decide) ?_
            obtain ⟨q31, h⟩ := ck_some h
            refine w_lst hF hW (pC_50 K a d _) q31 (uC_50 K a d _ _ _) dX1_addNeed_154 (fun H locs hW => ?_)
            refine lv_iinc (v := (x8 + (-1))) (lv' := [(8, .int (x8 + (-1))), (0, .ref (a 43)), (1, .int x1), (2, .int x2), (3, .int x3), (4, .int x4), (6, .int (bI x6)), (7, .int x7), (9, .long x9), (11, .int x11)]) hx hb dX1_addNeed_155 hl (k := 7) rfl rfl (by decide) rfl (fun ls hl => ?_)
            refine lv_goto (tgt := 59) hx hb dX1_addNeed_158 (by decide) ?_
            exact ih59 x1 x2 x3 x4 x6 x7 (x8 + (-1)) _ _ _ _ h hW (lv_sub hl [1, 2, 3, 4, 5, 6, 7, 0] rfl)
        intro x1 x2 x3 x4 x6 x7 x8 x9 M H locs ls h hW hl
        unfold f_X1_addNeed_88 at h
        refine lv_iload hx hb dX1_addNeed_88 (lv_at hl 4 rfl) ?_
        refine lv_iconst (v := 4) hx hb dX1_addNeed_90 (by decide) ?_
        refine lv_imul hx hb dX1_addNeed_91 ?_
        refine lv_iload hx hb dX1_addNeed_92 (lv_at hl 7 rfl) ?_
        refine lv_iadd hx hb dX1_addNeed_94 ?_
        refine lv_istore (lv' := [(11, .int ((x4 * 4) + x8)), (0, .ref (a 43)), (1, .int x1), (2, .int x2), (3, .int x3), (4, .int x4), (6, .int (bI x6)), (7, .int x7), (8, .int x8), (9, .long x9)]) hx hb dX1_addNeed_95 hl (by decide) rfl (fun ls hl => ?_)
        refine lv_aload_n hx hb dX1_addNeed_97 rfl (lv_at hl 1 rfl) ?_
        refine g_X1_27 hF hW dX1_addNeed_98 ?_
        refine lv_iload hx hb dX1_addNeed_101 (lv_at hl 0 rfl) ?_
        refine lv_iload hx hb dX1_addNeed_103 (lv_at hl 6 rfl) ?_
        refine lz_eq (tgt := 113) hx hb dX1_addNeed_105 (by decide) (fun q19 => ?_) (fun q19 => ?_)
        · have h := ifn q19 h
          refine lv_aload_n hx hb dX1_addNeed_113 rfl (lv_at hl 1 rfl) ?_
          refine g_X1_27 hF hW dX1_addNeed_114 ?_
          refine lv_iload hx hb dX1_addNeed_117 (lv_at hl 0 rfl) ?_
          obtain ⟨q20, h⟩ := ck_some h
          refine w_lld hF hW (pC_49 K a d _) q20 dX1_addNeed_119 ?_
          refine lv_lload hx hb dX1_addNeed_120 (lv_at hl 9 rfl) ?_
          obtain ⟨r21, hc23, h⟩ := bq_some h
          refine cS_l (rest := [.int ((x4 * 4) + x8), .ref (a 49)]) hF hW mw_X1_130 (c_J9_min_f86c9 l K hc23) ⟨Nat.le_of_ble_eq_true rfl, Nat.le_of_ble_eq_true rfl⟩ rfl hl.1 rfl (Nat.le_of_ble_eq_true rfl) dX1_addNeed_122 ⟨Nat.le_of_ble_eq_true rfl, Nat.le_of_ble_eq_true rfl⟩ (fun _ H locs hW => ?_)
          exact J125 x1 x2 x3 x4 x6 x7 x8 x9 ((x4 * 4) + x8) ((x4 * 4) + x8) r21 _ _ _ _ h hW (lv_sub hl [1, 2, 3, 4, 5, 6, 7, 8, 9, 0] rfl)
        · have h := ifp q19 h
          refine lv_lload hx hb dX1_addNeed_108 (lv_at hl 9 rfl) ?_
          refine lv_goto (tgt := 125) hx hb dX1_addNeed_110 (by decide) ?_
          exact J125 x1 x2 x3 x4 x6 x7 x8 x9 ((x4 * 4) + x8) ((x4 * 4) + x8) x9 _ _ _ _ h hW (lv_sub hl [1, 2, 3, 4, 5, 6, 7, 8, 9, 0] rfl)
      intro x1 x2 x3 x4 x6 x7 x8 M H locs ls h hW hl
      rw [f_X1_addNeed_59] at h
      refine lv_iload hx hb dX1_addNeed_59 (lv_at hl 7 rfl) ?_
      refine lv_if_lt (tgt := 161) hx hb dX1_addNeed_61 (by decide) (fun q6 => ?_) (fun q6 => ?_)
      · have h := ifp q6 h
        refine lv_aload_n hx hb dX1_addNeed_161 rfl (lv_at hl 0 rfl) ?_
        refine g_X1_18 hF hW dX1_addNeed_162 ?_
        refine lv_iload hx hb dX1_addNeed_165 (lv_at hl 4 rfl) ?_
        refine lv_dup2_11 hx hb dX1_addNeed_167 rfl rfl ?_
        obtain ⟨q7, h⟩ := ck_some h
        refine w_ild hF hW (pC_46 K a d _) q7 dX1_addNeed_168 ?_
        refine lv_iconst (v := 1) hx hb dX1_addNeed_169 (by decide) ?_
        refine lv_iadd hx hb dX1_addNeed_170 ?_
        obtain ⟨q8, h⟩ := ck_some h
        refine w_ist hF hW (pC_46 K a d _) q8 (uC_46 K a d _ _ _) dX1_addNeed_171 (fun H locs hW => ?_)
        refine lv_aload_n hx hb dX1_addNeed_172 rfl (lv_at hl 0 rfl) ?_
        refine g_X1_9 hF hW dX1_addNeed_173 ?_
        refine lv_iload hx hb dX1_addNeed_176 (lv_at hl 4 rfl) ?_
        refine lv_iconst (v := 3) hx hb dX1_addNeed_178 (by decide) ?_
        refine lv_imul hx hb dX1_addNeed_179 ?_
        refine lv_iload_n hx hb dX1_addNeed_180 rfl (lv_at hl 3 rfl) ?_
        refine lv_iadd hx hb dX1_addNeed_181 ?_
        refine lv_dup2_11 hx hb dX1_addNeed_182 rfl rfl ?_
        obtain ⟨q9, h⟩ := ck_some h
        refine w_ild hF hW (pC_44 K a d _) q9 dX1_addNeed_183 ?_
        refine lv_iconst (v := 1) hx hb dX1_addNeed_184 (by decide) ?_
        refine lv_iadd hx hb dX1_addNeed_185 ?_
        obtain ⟨q10, h⟩ := ck_some h
        refine w_ist hF hW (pC_44 K a d _) q10 (uC_44 K a d _ _ _) dX1_addNeed_186 (fun H locs hW => ?_)
        refine lv_aload_n hx hb dX1_addNeed_187 rfl (lv_at hl 0 rfl) ?_
        refine g_X1_15 hF hW dX1_addNeed_188 ?_
        refine lv_iload hx hb dX1_addNeed_191 (lv_at hl 6 rfl) ?_
        refine lv_dup2_11 hx hb dX1_addNeed_193 rfl rfl ?_
        obtain ⟨q11, h⟩ := ck_some h
        refine w_ild hF hW (pC_45 K a d _) q11 dX1_addNeed_194 ?_
        refine lv_iconst (v := 1) hx hb dX1_addNeed_195 (by decide) ?_
        refine lv_iadd hx hb dX1_addNeed_196 ?_
        obtain ⟨q12, h⟩ := ck_some h
        refine w_ist hF hW (pC_45 K a d _) q12 (uC_45 K a d _ _ _) dX1_addNeed_197 (fun H locs hW => ?_)
        refine lv_aload_n hx hb dX1_addNeed_198 rfl (lv_at hl 0 rfl) ?_
        refine g_X1_21 hF hW dX1_addNeed_199 ?_
        refine lv_iload hx hb dX1_addNeed_202 (lv_at hl 4 rfl) ?_
        refine lv_iconst (v := 5) hx hb dX1_addNeed_204 (by decide) ?_
        refine lv_imul hx hb dX1_addNeed_205 ?_
        refine lv_iload hx hb dX1_addNeed_206 (lv_at hl 6 rfl) ?_
        refine lv_iadd hx hb dX1_addNeed_208 ?_
        refine lv_dup2_11 hx hb dX1_addNeed_209 rfl rfl ?_
        obtain ⟨q13, h⟩ := ck_some h
        refine w_ild hF hW (pC_47 K a d _) q13 dX1_addNeed_210 ?_
        refine lv_iconst (v := 1) hx hb dX1_addNeed_211 (by decide) ?_
        refine lv_iadd hx hb dX1_addNeed_212 ?_
        obtain ⟨q14, h⟩ := ck_some h
        refine w_ist hF hW (pC_47 K a d _) q14 (uC_47 K a d _ _ _) dX1_addNeed_213 (fun H locs hW => ?_)
        obtain rfl := Option.some.inj h
        exact rt_v hF hr hk (fun _ => 0) hW dX1_addNeed_214
      · have h := ifn q6 h
        refine lv_aload_n hx hb dX1_addNeed_64 rfl (lv_at hl 0 rfl) ?_
        refine g_X1_54 hF hW dX1_addNeed_65 ?_
        refine lv_iload_n hx hb dX1_addNeed_68 rfl (lv_at hl 1 rfl) ?_
        refine lv_iload_n hx hb dX1_addNeed_69 rfl (lv_at hl 2 rfl) ?_
        refine lv_iload hx hb dX1_addNeed_70 (lv_at hl 7 rfl) ?_
        obtain ⟨r15, hc17, h⟩ := bq_some h
        refine cV_l (ci := 0) (q0 := 34) (rest := []) hF hW mw_X1_126 (c_X0_step l K a d hc17) ⟨Nat.le_of_ble_eq_true rfl, Nat.le_of_ble_eq_true rfl⟩ rfl rfl (pC_34 K a d _) rfl hl.1 rfl (Nat.le_of_ble_eq_true rfl) dX1_addNeed_72 ⟨Nat.le_of_ble_eq_true rfl, Nat.le_of_ble_eq_true rfl⟩ (fun _ H locs hW => ?_)
        refine lv_lstore (lv' := [(9, .long r15), (0, .ref (a 43)), (1, .int x1), (2, .int x2), (3, .int x3), (4, .int x4), (6, .int (bI x6)), (7, .int x7), (8, .int x8)]) hx hb dX1_addNeed_75 hl (by decide) rfl (fun ls hl => ?_)
        refine lv_lload hx hb dX1_addNeed_77 (lv_at hl 0 rfl) ?_
        refine lv_lconst (v := 0) hx hb dX1_addNeed_79 (by decide) ?_
        refine ll_eq (tgt := 88) hx hb dX1_addNeed_80 dX1_addNeed_81 (by decide) (fun q18 => ?_) (fun q18 => ?_)
        · have h := ifp q18 h
          exact J88 x1 x2 x3 x4 x6 x7 x8 r15 _ _ _ _ h hW (lv_sub hl [1, 2, 3, 4, 5, 6, 7, 8, 0] rfl)
        · have h := ifn q18 h
          refine lv_iload hx hb dX1_addNeed_84 (lv_at hl 8 rfl) ?_
          refine lv_istore (lv' := [(7, .int x8), (9, .long r15), (0, .ref (a 43)), (1, .int x1), (2, .int x2), (3, .int x3), (4, .int x4), (6, .int (bI x6)), (8, .int x8)]) hx hb dX1_addNeed_86 hl (by decide) rfl (fun ls hl => ?_)
          exact J88 x1 x2 x3 x4 x6 x8 x8 r15 _ _ _ _ h hW (lv_sub hl [2, 3, 4, 5, 6, 7, 0, 8, 1] rfl)
  unfold f_X1_addNeed at h
  refine lv_aload_n hx hb dX1_addNeed_0 rfl (lv_at hl 0 rfl) ?_
  refine g_X1_54 hF hW dX1_addNeed_1 ?_
  refine g_X1_123 hF hW dX1_addNeed_4 ?_
  refine lv_iload_n hx hb dX1_addNeed_7 rfl (lv_at hl 1 rfl) ?_
  obtain ⟨q1, h⟩ := ck_some h
  refine w_ild hF hW (pC_35 K a d _) q1 dX1_addNeed_8 ?_
  refine lv_bipush (v := 12) hx hb dX1_addNeed_9 (by decide) ?_
  refine lv_imul hx hb dX1_addNeed_11 ?_
  refine lv_aload_n hx hb dX1_addNeed_12 rfl (lv_at hl 0 rfl) ?_
  refine g_X1_54 hF hW dX1_addNeed_13 ?_
  refine g_X1_123 hF hW dX1_addNeed_16 ?_
  refine lv_iload_n hx hb dX1_addNeed_19 rfl (lv_at hl 2 rfl) ?_
  obtain ⟨q2, h⟩ := ck_some h
  refine w_ild hF hW (pC_35 K a d _) q2 dX1_addNeed_20 ?_
  refine lv_iadd hx hb dX1_addNeed_21 ?_
  refine lv_istore (lv' := [(4, .int (((M.1 35 x1.toNatClampNeg) * 12) + (M.1 35 x2.toNatClampNeg))), (0, .ref (a 43)), (1, .int x1), (2, .int x2), (3, .int x3)]) hx hb dX1_addNeed_22 hl (by decide) rfl (fun ls hl => ?_)
  refine lv_aload_n hx hb dX1_addNeed_24 rfl (lv_at hl 1 rfl) ?_
  refine g_X1_24 hF hW dX1_addNeed_25 ?_
  refine lv_iload hx hb dX1_addNeed_28 (lv_at hl 0 rfl) ?_
  obtain ⟨q3, h⟩ := ck_some h
  refine w_ild hF hW (pC_48 K a d _) q3 dX1_addNeed_30 ?_
  refine lv_istore (lv' := [(5, .int (M.1 48 (((M.1 35 x1.toNatClampNeg) * 12) + (M.1 35 x2.toNatClampNeg)).toNatClampNeg)), (4, .int (((M.1 35 x1.toNatClampNeg) * 12) + (M.1 35 x2.toNatClampNeg))), (0, .ref (a 43)), (1, .int x1), (2, .int x2), (3, .int x3)]) hx hb dX1_addNeed_31 hl (by decide) rfl (fun ls hl => ?_)
  refine lv_aload_n hx hb dX1_addNeed_33 rfl (lv_at hl 2 rfl) ?_
  refine g_X1_18 hF hW dX1_addNeed_34 ?_
  refine lv_iload hx hb dX1_addNeed_37 (lv_at hl 1 rfl) ?_
  obtain ⟨q4, h⟩ := ck_some h
  refine w_ild hF hW (pC_46 K a d _) q4 dX1_addNeed_39 ?_
  refine lv_if_ne (tgt := 47) hx hb dX1_addNeed_40 (by decide) (fun q5 => ?_) (fun q5 => ?_)
  · have h := ifn q5 h
    refine lv_iconst (v := 0) hx hb dX1_addNeed_47 (by decide) ?_
    refine lv_istore (lv' := [(6, .int 0), (5, .int (M.1 48 (((M.1 35 x1.toNatClampNeg) * 12) + (M.1 35 x2.toNatClampNeg)).toNatClampNeg)), (4, .int (((M.1 35 x1.toNatClampNeg) * 12) + (M.1 35 x2.toNatClampNeg))), (0, .ref (a 43)), (1, .int x1), (2, .int x2), (3, .int x3)]) hx hb dX1_addNeed_48 hl (by decide) rfl (fun ls hl => ?_)
    refine lv_iconst (v := 4) hx hb dX1_addNeed_50 (by decide) ?_
    refine lv_istore (lv' := [(7, .int 4), (6, .int 0), (5, .int (M.1 48 (((M.1 35 x1.toNatClampNeg) * 12) + (M.1 35 x2.toNatClampNeg)).toNatClampNeg)), (4, .int (((M.1 35 x1.toNatClampNeg) * 12) + (M.1 35 x2.toNatClampNeg))), (0, .ref (a 43)), (1, .int x1), (2, .int x2), (3, .int x3)]) hx hb dX1_addNeed_51 hl (by decide) rfl (fun ls hl => ?_)
    refine lv_iload hx hb dX1_addNeed_53 (lv_at hl 2 rfl) ?_
    refine lv_iconst (v := 1) hx hb dX1_addNeed_55 (by decide) ?_
    refine lv_isub hx hb dX1_addNeed_56 ?_
    refine lv_istore (lv' := [(8, .int ((M.1 48 (((M.1 35 x1.toNatClampNeg) * 12) + (M.1 35 x2.toNatClampNeg)).toNatClampNeg) - 1)), (7, .int 4), (6, .int 0), (5, .int (M.1 48 (((M.1 35 x1.toNatClampNeg) * 12) + (M.1 35 x2.toNatClampNeg)).toNatClampNeg)), (4, .int (((M.1 35 x1.toNatClampNeg) * 12) + (M.1 35 x2.toNatClampNeg))), (0, .ref (a 43)), (1, .int x1), (2, .int x2), (3, .int x3)]) hx hb dX1_addNeed_57 hl (by decide) rfl (fun ls hl => ?_)
    exact J59 100000 x1 x2 x3 (((M.1 35 x1.toNatClampNeg) * 12) + (M.1 35 x2.toNatClampNeg)) false 4 ((M.1 48 (((M.1 35 x1.toNatClampNeg) * 12) + (M.1 35 x2.toNatClampNeg)).toNatClampNeg) - 1) _ _ _ _ h hW (lv_sub hl [5, 6, 7, 8, 4, 2, 1, 0] rfl)
  · have h := ifp q5 h
    refine lv_iconst (v := 1) hx hb dX1_addNeed_43 (by decide) ?_
    refine lv_goto (tgt := 48) hx hb dX1_addNeed_44 (by decide) ?_
    refine lv_istore (lv' := [(6, .int 1), (5, .int (M.1 48 (((M.1 35 x1.toNatClampNeg) * 12) + (M.1 35 x2.toNatClampNeg)).toNatClampNeg)), (4, .int (((M.1 35 x1.toNatClampNeg) * 12) + (M.1 35 x2.toNatClampNeg))), (0, .ref (a 43)), (1, .int x1), (2, .int x2), (3, .int x3)]) hx hb dX1_addNeed_48 hl (by decide) rfl (fun ls hl => ?_)
    refine lv_iconst (v := 4) hx hb dX1_addNeed_50 (by decide) ?_
    refine lv_istore (lv' := [(7, .int 4), (6, .int 1), (5, .int (M.1 48 (((M.1 35 x1.toNatClampNeg) * 12) + (M.1 35 x2.toNatClampNeg)).toNatClampNeg)), (4, .int (((M.1 35 x1.toNatClampNeg) * 12) + (M.1 35 x2.toNatClampNeg))), (0, .ref (a 43)), (1, .int x1), (2, .int x2), (3, .int x3)]) hx hb dX1_addNeed_51 hl (by decide) rfl (fun ls hl => ?_)
    refine lv_iload hx hb dX1_addNeed_53 (lv_at hl 2 rfl) ?_
    refine lv_iconst (v := 1) hx hb dX1_addNeed_55 (by decide) ?_
    refine lv_isub hx hb dX1_addNeed_56 ?_
    refine lv_istore (lv' := [(8, .int ((M.1 48 (((M.1 35 x1.toNatClampNeg) * 12) + (M.1 35 x2.toNatClampNeg)).toNatClampNeg) - 1)), (7, .int 4), (6, .int 1), (5, .int (M.1 48 (((M.1 35 x1.toNatClampNeg) * 12) + (M.1 35 x2.toNatClampNeg)).toNatClampNeg)), (4, .int (((M.1 35 x1.toNatClampNeg) * 12) + (M.1 35 x2.toNatClampNeg))), (0, .ref (a 43)), (1, .int x1), (2, .int x2), (3, .int x3)]) hx hb dX1_addNeed_57 hl (by decide) rfl (fun ls hl => ?_)
    exact J59 100000 x1 x2 x3 (((M.1 35 x1.toNatClampNeg) * 12) + (M.1 35 x2.toNatClampNeg)) true 4 ((M.1 48 (((M.1 35 x1.toNatClampNeg) * 12) + (M.1 35 x2.toNatClampNeg)).toNatClampNeg) - 1) _ _ _ _ h hW (lv_sub hl [5, 6, 7, 8, 4, 2, 1, 0] rfl)
set_option maxRecDepth 100000 in
set_option maxHeartbeats 1000000 in
theorem c_X1_isAny (l : Launch) (K : Kx) (a d : Nat → Nat) {M : Mem} {x1 : Int32} {r0 : Bool} (h : f_X1_isAny M x1 = some r0) : CMi l yX1_isAny cX1_isAny 2 (some .boolean) ({ frames := 0, cells := 0, slots := 0, locals := 0 } : Room) K [.ref (a 43), .int x1] (wC K a d M) (fun _ => wC K a d M) (bI r0) := by
  refine cs_i (by decide +kernel) (Nat.le_of_ble_eq_true rfl) ?_
  intro p e s m args below meth c A ls hF hr hk hnm hW hl
  have hx := hF.1
  have hb := hF.2.1
  have hl : lv_has ls 2 [(0, .ref (a 43)), (1, .int x1)] := hl
  obtain ⟨H, hH⟩ : ∃ z, z = s.heap := ⟨_, rfl⟩
  rw [← hH] at hW ⊢
  unfold f_X1_isAny at h
  refine lv_aload_n hx hb dX1_isAny_0 rfl (lv_at hl 0 rfl) ?_
  refine g_X1_18 hF hW dX1_isAny_1 ?_
  refine lv_iload_n hx hb dX1_isAny_4 rfl (lv_at hl 1 rfl) ?_
  obtain ⟨q1, h⟩ := ck_some h
  refine w_ild hF hW (pC_46 K a d _) q1 dX1_isAny_5 ?_
  refine lv_if_le (tgt := 13) hx hb dX1_isAny_6 (by decide) (fun q2 => ?_) (fun q2 => ?_)
  · have h := ifp q2 h
    refine lv_iconst (v := 0) hx hb dX1_isAny_13 (by decide) ?_
    obtain rfl := Option.some.inj h
    exact rt_i hF hr hk (bI_n false) (fun _ => 0) hW rfl dX1_isAny_14
  · have h := ifn q2 h
    refine lv_iconst (v := 1) hx hb dX1_isAny_9 (by decide) ?_
    refine lv_goto (tgt := 14) hx hb dX1_isAny_10 (by decide) ?_
    obtain rfl := Option.some.inj h
    exact rt_i hF hr hk (bI_n true) (fun _ => 0) hW rfl dX1_isAny_14
set_option maxRecDepth 100000 in
set_option maxHeartbeats 1000000 in
theorem c_X2_known (l : Launch) (K : Kx) (a d : Nat → Nat) {M : Mem} {x1 : Int32} {r0 : Bool} (h : f_X2_known M x1 = some r0) : CMi l yX2_known cX2_known 2 (some .boolean) ({ frames := 0, cells := 0, slots := 0, locals := 0 } : Room) K [.ref (a 5), .int x1] (wC K a d M) (fun _ => wC K a d M) (bI r0) := by
  refine cs_i (by decide +kernel) (Nat.le_of_ble_eq_true rfl) ?_
  intro p e s m args below meth c A ls hF hr hk hnm hW hl
  have hx := hF.1
  have hb := hF.2.1
  have hl : lv_has ls 2 [(0, .ref (a 5)), (1, .int x1)] := hl
  obtain ⟨H, hH⟩ : ∃ z, z = s.heap := ⟨_, rfl⟩
  rw [← hH] at hW ⊢
  unfold f_X2_known at h
  refine lv_iload_n hx hb dX2_known_0 rfl (lv_at hl 1 rfl) ?_
  refine lv_if_lt (tgt := 16) hx hb dX2_known_1 (by decide) (fun q1 => ?_) (fun q1 => ?_)
  · have h := ifp q1 h
    refine lv_iconst (v := 0) hx hb dX2_known_16 (by decide) ?_
    obtain rfl := Option.some.inj h
    exact rt_i hF hr hk (bI_n false) (fun _ => 0) hW rfl dX2_known_17
  · have h := ifn q1 h
    refine lv_iload_n hx hb dX2_known_4 rfl (lv_at hl 1 rfl) ?_
    refine lv_aload_n hx hb dX2_known_5 rfl (lv_at hl 0 rfl) ?_
    refine g_X2_42 hF hW dX2_known_6 ?_
    refine lv_icmp_ge (tgt := 16) hx hb dX2_known_9 (by decide) (fun q2 => ?_) (fun q2 => ?_)
    · have h := ifp q2 h
      refine lv_iconst (v := 0) hx hb dX2_known_16 (by decide) ?_
      obtain rfl := Option.some.inj h
      exact rt_i hF hr hk (bI_n false) (fun _ => 0) hW rfl dX2_known_17
    · have h := ifn q2 h
      refine lv_iconst (v := 1) hx hb dX2_known_12 (by decide) ?_
      refine lv_goto (tgt := 17) hx hb dX2_known_13 (by decide) ?_
      obtain rfl := Option.some.inj h
      exact rt_i hF hr hk (bI_n true) (fun _ => 0) hW rfl dX2_known_17
set_option maxRecDepth 100000 in
set_option maxHeartbeats 1000000 in
theorem c_X2_isAct (l : Launch) (K : Kx) (a d : Nat → Nat) {M : Mem} {x1 : Int32} {r0 : Bool} (h : f_X2_isAct M x1 = some r0) : CMi l yX2_isAct cX2_isAct 2 (some .boolean) ({ frames := 0, cells := 0, slots := 0, locals := 0 } : Room) K [.ref (a 5), .int x1] (wC K a d M) (fun _ => wC K a d M) (bI r0) := by
  refine cs_i (by decide +kernel) (Nat.le_of_ble_eq_true rfl) ?_
  intro p e s m args below meth c A ls hF hr hk hnm hW hl
  have hx := hF.1
  have hb := hF.2.1
  have hl : lv_has ls 2 [(0, .ref (a 5)), (1, .int x1)] := hl
  obtain ⟨H, hH⟩ : ∃ z, z = s.heap := ⟨_, rfl⟩
  rw [← hH] at hW ⊢
  unfold f_X2_isAct at h
  refine lv_aload_n hx hb dX2_isAct_0 rfl (lv_at hl 0 rfl) ?_
  refine g_X2_21 hF hW dX2_isAct_1 ?_
  refine lv_iload_n hx hb dX2_isAct_4 rfl (lv_at hl 1 rfl) ?_
  obtain ⟨q1, h⟩ := ck_some h
  refine w_ild hF hW (pC_9 K a d _) q1 dX2_isAct_5 ?_
  refine lv_iconst (v := 3) hx hb dX2_isAct_6 (by decide) ?_
  refine lv_icmp_ne (tgt := 14) hx hb dX2_isAct_7 (by decide) (fun q2 => ?_) (fun q2 => ?_)
  · have h := ifn q2 h
    refine lv_iconst (v := 0) hx hb dX2_isAct_14 (by decide) ?_
    obtain rfl := Option.some.inj h
    exact rt_i hF hr hk (bI_n false) (fun _ => 0) hW rfl dX2_isAct_15
  · have h := ifp q2 h
    refine lv_iconst (v := 1) hx hb dX2_isAct_10 (by decide) ?_
    refine lv_goto (tgt := 15) hx hb dX2_isAct_11 (by decide) ?_
    obtain rfl := Option.some.inj h
    exact rt_i hF hr hk (bI_n true) (fun _ => 0) hW rfl dX2_isAct_15
set_option maxRecDepth 100000 in
set_option maxHeartbeats 1000000 in
theorem c_X2_isLoop (l : Launch) (K : Kx) (a d : Nat → Nat) {M : Mem} {x1 : Int32} {r0 : Bool} (h : f_X2_isLoop M x1 = some r0) : CMi l yX2_isLoop cX2_isLoop 2 (some .boolean) ({ frames := 0, cells := 0, slots := 0, locals := 0 } : Room) K [.ref (a 5), .int x1] (wC K a d M) (fun _ => wC K a d M) (bI r0) := by
  refine cs_i (by decide +kernel) (Nat.le_of_ble_eq_true rfl) ?_
  intro p e s m args below meth c A ls hF hr hk hnm hW hl
  have hx := hF.1
  have hb := hF.2.1
  have hl : lv_has ls 2 [(0, .ref (a 5)), (1, .int x1)] := hl
  obtain ⟨H, hH⟩ : ∃ z, z = s.heap := ⟨_, rfl⟩
  rw [← hH] at hW ⊢
  unfold f_X2_isLoop at h
  refine lv_aload_n hx hb dX2_isLoop_0 rfl (lv_at hl 0 rfl) ?_
  refine g_X2_21 hF hW dX2_isLoop_1 ?_
  refine lv_iload_n hx hb dX2_isLoop_4 rfl (lv_at hl 1 rfl) ?_
  obtain ⟨q1, h⟩ := ck_some h
  refine w_ild hF hW (pC_9 K a d _) q1 dX2_isLoop_5 ?_
  refine lv_if_eq (tgt := 19) hx hb dX2_isLoop_6 (by decide) (fun q2 => ?_) (fun q2 => ?_)
  · have h := ifp q2 h
    refine lv_iconst (v := 1) hx hb dX2_isLoop_19 (by decide) ?_
    refine lv_goto (tgt := 24) hx hb dX2_isLoop_20 (by decide) ?_
    obtain rfl := Option.some.inj h
    exact rt_i hF hr hk (bI_n true) (fun _ => 0) hW rfl dX2_isLoop_24
  · have h := ifn q2 h
    refine lv_aload_n hx hb dX2_isLoop_9 rfl (lv_at hl 0 rfl) ?_
    refine g_X2_21 hF hW dX2_isLoop_10 ?_
    refine lv_iload_n hx hb dX2_isLoop_13 rfl (lv_at hl 1 rfl) ?_
    obtain ⟨q3, h⟩ := ck_some h
    refine w_ild hF hW (pC_9 K a d _) q3 dX2_isLoop_14 ?_
    refine lv_iconst (v := 1) hx hb dX2_isLoop_15 (by decide) ?_
    refine lv_icmp_ne (tgt := 23) hx hb dX2_isLoop_16 (by decide) (fun q4 => ?_) (fun q4 => ?_)
    · have h := ifn q4 h
      refine lv_iconst (v := 0) hx hb dX2_isLoop_23 (by decide) ?_
      obtain rfl := Option.some.inj h
      exact rt_i hF hr hk (bI_n false) (fun _ => 0) hW rfl dX2_isLoop_24
    · have h := ifp q4 h
      refine lv_iconst (v := 1) hx hb dX2_isLoop_19 (by decide) ?_
      refine lv_goto (tgt := 24) hx hb dX2_isLoop_20 (by decide) ?_
      obtain rfl := Option.some.inj h
      exact rt_i hF hr hk (bI_n true) (fun _ => 0) hW rfl dX2_isLoop_24
set_option maxRecDepth 100000 in
set_option maxHeartbeats 1000000 in
theorem c_X2_isOfKind (l : Launch) (K : Kx) (a d : Nat → Nat) {M : Mem} {x1 : Int32} {x2 : Int32} {r0 : Bool} (h : f_X2_isOfKind M x1 x2 = some r0) : CMi l yX2_isOfKind cX2_isOfKind 3 (some .boolean) ({ frames := 1, cells := 0, slots := 0, locals := 21 } : Room) K [.ref (a 5), .int x1, .int x2] (wC K a d M) (fun _ => wC K a d M) (bI r0) := by
  refine cs_i (by decide +kernel) (Nat.le_of_ble_eq_true rfl) ?_
  intro p e s m args below meth c A ls hF hr hk hnm hW hl
  have hx := hF.1
  have hb := hF.2.1
  have hl : lv_has ls 3 [(0, .ref (a 5)), (1, .int x1), (2, .int x2)] := hl
  obtain ⟨H, hH⟩ : ∃ z, z = s.heap := ⟨_, rfl⟩
  rw [← hH] at hW ⊢
  unfold f_X2_isOfKind at h
  refine lv_iload_n hx hb dX2_isOfKind_0 rfl (lv_at hl 2 rfl) ?_
  refine lv_if_ne (tgt := 12) hx hb dX2_isOfKind_1 (by decide) (fun q1 => ?_) (fun q1 => ?_)
  · have h := ifn q1 h
    refine lv_aload_n hx hb dX2_isOfKind_12 rfl (lv_at hl 0 rfl) ?_
    refine g_X2_21 hF hW dX2_isOfKind_13 ?_
    refine lv_iload_n hx hb dX2_isOfKind_16 rfl (lv_at hl 1 rfl) ?_
    obtain ⟨q2, h⟩ := ck_some h
    refine w_ild hF hW (pC_9 K a d _) q2 dX2_isOfKind_17 ?_
    refine lv_iload_n hx hb dX2_isOfKind_18 rfl (lv_at hl 2 rfl) ?_
    refine lv_icmp_ne (tgt := 26) hx hb dX2_isOfKind_19 (by decide) (fun q3 => ?_) (fun q3 => ?_)
    · have h := ifn q3 h
      refine lv_iconst (v := 0) hx hb dX2_isOfKind_26 (by decide) ?_
      obtain rfl := Option.some.inj h
      exact rt_i hF hr hk (bI_n false) (fun _ => 0) hW rfl dX2_isOfKind_27
    · have h := ifp q3 h
      refine lv_iconst (v := 1) hx hb dX2_isOfKind_22 (by decide) ?_
      refine lv_goto (tgt := 27) hx hb dX2_isOfKind_23 (by decide) ?_
      obtain rfl := Option.some.inj h
      exact rt_i hF hr hk (bI_n true) (fun _ => 0) hW rfl dX2_isOfKind_27
  · have h := ifp q1 h
    refine lv_aload_n hx hb dX2_isOfKind_4 rfl (lv_at hl 0 rfl) ?_
    refine lv_iload_n hx hb dX2_isOfKind_5 rfl (lv_at hl 1 rfl) ?_
    obtain ⟨r4, hc6, h⟩ := bq_some h
    refine cV_i (ci := 2) (q0 := 5) (rest := []) hF hW mw_X2_70 (c_X2_isLoop l K a d hc6) ⟨Nat.le_of_ble_eq_true rfl, Nat.le_of_ble_eq_true rfl⟩ rfl rfl (pC_5 K a d _) rfl hl.1 rfl (Nat.le_of_ble_eq_true rfl) dX2_isOfKind_6 ⟨Nat.le_of_ble_eq_true rfl, Nat.le_of_ble_eq_true rfl⟩ (fun _ H locs hW => ?_)
    refine lv_goto (tgt := 27) hx hb dX2_isOfKind_9 (by decide) ?_
    obtain rfl := Option.some.inj h
    exact rt_i hF hr hk (bI_n _) (fun _ => 0) hW rfl dX2_isOfKind_27
set_option maxRecDepth 100000 in
set_option maxHeartbeats 1000000 in
theorem c_X2_opens (l : Launch) (K : Kx) (a d : Nat → Nat) {M : Mem} {x1 : Int32} {r0 : Bool} (h : f_X2_opens M x1 = some r0) : CMi l yX2_opens cX2_opens 2 (some .boolean) ({ frames := 1, cells := 0, slots := 0, locals := 21 } : Room) K [.ref (a 5), .int x1] (wC K a d M) (fun _ => wC K a d M) (bI r0) := by
  refine cs_i (by decide +kernel) (Nat.le_of_ble_eq_true rfl) ?_
  intro p e s m args below meth c A ls hF hr hk hnm hW hl
  have hx := hF.1
  have hb := hF.2.1
  have hl : lv_has ls 2 [(0, .ref (a 5)), (1, .int x1)] := hl
  obtain ⟨H, hH⟩ : ∃ z, z = s.heap := ⟨_, rfl⟩
  rw [← hH] at hW ⊢
  unfold f_X2_opens at h
  refine lv_iload_n hx hb dX2_opens_0 rfl (lv_at hl 1 rfl) ?_
  refine lv_bipush (v := (-9)) hx hb dX2_opens_1 (by decide) ?_
  refine lv_icmp_eq (tgt := 22) hx hb dX2_opens_3 (by decide) (fun q1 => ?_) (fun q1 => ?_)
  · have h := ifp q1 h
    refine lv_iconst (v := 1) hx hb dX2_opens_22 (by decide) ?_
    refine lv_goto (tgt := 27) hx hb dX2_opens_23 (by decide) ?_
    obtain rfl := Option.some.inj h
    exact rt_i hF hr hk (bI_n true) (fun _ => 0) hW rfl dX2_opens_27
  · have h := ifn q1 h
    refine lv_aload_n hx hb dX2_opens_6 rfl (lv_at hl 0 rfl) ?_
    refine lv_iload_n hx hb dX2_opens_7 rfl (lv_at hl 1 rfl) ?_
    obtain ⟨r2, hc4, h⟩ := bq_some h
    refine cV_i (ci := 2) (q0 := 5) (rest := []) hF hW mw_X2_74 (c_X2_known l K a d hc4) ⟨Nat.le_of_ble_eq_true rfl, Nat.le_of_ble_eq_true rfl⟩ rfl rfl (pC_5 K a d _) rfl hl.1 rfl (Nat.le_of_ble_eq_true rfl) dX2_opens_8 ⟨Nat.le_of_ble_eq_true rfl, Nat.le_of_ble_eq_true rfl⟩ (fun _ H locs hW => ?_)
    refine lz_eq (tgt := 26) hx hb dX2_opens_11 (by decide) (fun q5 => ?_) (fun q5 => ?_)
    · have h := ifn q5 h
      refine lv_iconst (v := 0) hx hb dX2_opens_26 (by decide) ?_
      obtain rfl := Option.some.inj h
      exact rt_i hF hr hk (bI_n false) (fun _ => 0) hW rfl dX2_opens_27
    · have h := ifp q5 h
      refine lv_aload_n hx hb dX2_opens_14 rfl (lv_at hl 0 rfl) ?_
      refine lv_iload_n hx hb dX2_opens_15 rfl (lv_at hl 1 rfl) ?_
      obtain ⟨r6, hc8, h⟩ := bq_some h
      refine cV_i (ci := 2) (q0 := 5) (rest := []) hF hW mw_X2_77 (c_X2_isAct l K a d hc8) ⟨Nat.le_of_ble_eq_true rfl, Nat.le_of_ble_eq_true rfl⟩ rfl rfl (pC_5 K a d _) rfl hl.1 rfl (Nat.le_of_ble_eq_true rfl) dX2_opens_16 ⟨Nat.le_of_ble_eq_true rfl, Nat.le_of_ble_eq_true rfl⟩ (fun _ H locs hW => ?_)
      refine lz_ne (tgt := 26) hx hb dX2_opens_19 (by decide) (fun q9 => ?_) (fun q9 => ?_)
      · have h := ifp q9 h
        refine lv_iconst (v := 0) hx hb dX2_opens_26 (by decide) ?_
        obtain rfl := Option.some.inj h
        exact rt_i hF hr hk (bI_n false) (fun _ => 0) hW rfl dX2_opens_27
      · have h := ifn q9 h
        refine lv_iconst (v := 1) hx hb dX2_opens_22 (by decide) ?_
        refine lv_goto (tgt := 27) hx hb dX2_opens_23 (by decide) ?_
        obtain rfl := Option.some.inj h
        exact rt_i hF hr hk (bI_n true) (fun _ => 0) hW rfl dX2_opens_27
set_option maxRecDepth 100000 in
set_option maxHeartbeats 1000000 in
theorem c_X2_loopsIn (l : Launch) (K : Kx) (a d : Nat → Nat) {M : Mem} {x1 : Int32} {r0 : Int32} (h : f_X2_loopsIn M x1 = some r0) : CMi l yX2_loopsIn cX2_loopsIn 2 (some .int) ({ frames := 1, cells := 0, slots := 0, locals := 21 } : Room) K [.ref (a 5), .int x1] (wC K a d M) (fun _ => wC K a d M) r0 := by
  refine cs_i (by decide +kernel) (Nat.le_of_ble_eq_true rfl) ?_
  intro p e s m args below meth c A ls hF hr hk hnm hW hl
  have hx := hF.1
  have hb := hF.2.1
  have hl : lv_has ls 2 [(0, .ref (a 5)), (1, .int x1)] := hl
  obtain ⟨H, hH⟩ : ∃ z, z = s.heap := ⟨_, rfl⟩
  rw [← hH] at hW ⊢
  unfold f_X2_loopsIn at h
  refine lv_iload_n hx hb dX2_loopsIn_0 rfl (lv_at hl 1 rfl) ?_
  refine lv_bipush (v := (-9)) hx hb dX2_loopsIn_1 (by decide) ?_
  refine lv_icmp_ne (tgt := 8) hx hb dX2_loopsIn_3 (by decide) (fun q1 => ?_) (fun q1 => ?_)
  · have h := ifn q1 h
    refine lv_aload_n hx hb dX2_loopsIn_8 rfl (lv_at hl 0 rfl) ?_
    refine lv_iload_n hx hb dX2_loopsIn_9 rfl (lv_at hl 1 rfl) ?_
    obtain ⟨r2, hc4, h⟩ := bq_some h
    refine cV_i (ci := 2) (q0 := 5) (rest := []) hF hW mw_X2_70 (c_X2_isLoop l K a d hc4) ⟨Nat.le_of_ble_eq_true rfl, Nat.le_of_ble_eq_true rfl⟩ rfl rfl (pC_5 K a d _) rfl hl.1 rfl (Nat.le_of_ble_eq_true rfl) dX2_loopsIn_10 ⟨Nat.le_of_ble_eq_true rfl, Nat.le_of_ble_eq_true rfl⟩ (fun _ H locs hW => ?_)
    refine lz_eq (tgt := 27) hx hb dX2_loopsIn_13 (by decide) (fun q5 => ?_) (fun q5 => ?_)
    · have h := ifn q5 h
      refine lv_aload_n hx hb dX2_loopsIn_27 rfl (lv_at hl 0 rfl) ?_
      refine g_X2_27 hF hW dX2_loopsIn_28 ?_
      refine lv_iload_n hx hb dX2_loopsIn_31 rfl (lv_at hl 1 rfl) ?_
      obtain ⟨q6, h⟩ := ck_some h
      refine w_ild hF hW (pC_11 K a d _) q6 dX2_loopsIn_32 ?_
      obtain rfl := Option.some.inj h
      exact rt_i hF hr hk rfl (fun _ => 0) hW rfl dX2_loopsIn_33
    · have h := ifp q5 h
      refine lv_aload_n hx hb dX2_loopsIn_16 rfl (lv_at hl 0 rfl) ?_
      refine g_X2_27 hF hW dX2_loopsIn_17 ?_
      refine lv_iload_n hx hb dX2_loopsIn_20 rfl (lv_at hl 1 rfl) ?_
      obtain ⟨q7, h⟩ := ck_some h
      refine w_ild hF hW (pC_11 K a d _) q7 dX2_loopsIn_21 ?_
      refine lv_iconst (v := 1) hx hb dX2_loopsIn_22 (by decide) ?_
      refine lv_iadd hx hb dX2_loopsIn_23 ?_
      refine lv_goto (tgt := 33) hx hb dX2_loopsIn_24 (by decide) ?_
      obtain rfl := Option.some.inj h
      exact rt_i hF hr hk rfl (fun _ => 0) hW rfl dX2_loopsIn_33
  · have h := ifp q1 h
    refine lv_iconst (v := 0) hx hb dX2_loopsIn_6 (by decide) ?_
    obtain rfl := Option.some.inj h
    exact rt_i hF hr hk rfl (fun _ => 0) hW rfl dX2_loopsIn_7
set_option maxRecDepth 100000 in
set_option maxHeartbeats 1000000 in
theorem c_X2_inherit (l : Launch) (K : Kx) (a d : Nat → Nat) {M M0 : Mem} {x1 : Int32} {x2 : Int32}  (h : f_X2_inherit M x1 x2 = some M0) : CMv l yX2_inherit cX2_inherit 6 ({ frames := 1, cells := 0, slots := 0, locals := 21 } : Room) K [.ref (a 5), .int x1, .int x2] (wC K a d M) (fun _ => wC K a d M0) := by
  refine cs_v (by decide +kernel) (Nat.le_of_ble_eq_true rfl) ?_
  intro p e s m args below meth c A ls hF hr hk hnm hW hl
  have hx := hF.1
  have hb := hF.2.1
  have hl : lv_has ls 6 [(0, .ref (a 5)), (1, .int x1), (2, .int x2)] := hl
  obtain ⟨H, hH⟩ : ∃ z, z = s.heap := ⟨_, rfl⟩
  rw [← hH] at hW ⊢
  have J10 : ∀ (n10 : Nat) (x1 : Int32) (x2 : Int32) (x3 : Int32) (x4 : Int32) (M : Mem) (H : Heap) (locs : List Loc) (ls : Array Slot), f_X2_inherit_10 n10 x1 x2 x3 x4 M = some M0 → Wd K A s (wC K a d M) H locs → lv_has ls 6 [(0, .ref (a 5)), (1, .int x1), (2, .int x2), (3, .int x3), (4, .int x4)] → W p l e ({ frames := 1, cells := 0, slots := 0, locals := 21 } : Room) s m args below meth c H locs 0 0 (EndV K A (fun _ => wC K a d M0) below args s ({ frames := 1, cells := 0, slots := 0, locals := 21 } : Room)) (F0 m 10 ls []) := by
    intro n10
    induction n10 with
    | zero => intro x1 x2 x3 x4 M H locs ls h; exact absurd h (by simp [f_X2_inherit_10])
    | succ n10 ih10 =>
      have J37 : ∀ (x1 : Int32) (x2 : Int32) (x3 : Int32) (x4 : Int32) (s0 : Bool) (M : Mem) (H : Heap) (locs : List Loc) (ls : Array Slot), f_X2_inherit_37 (f_X2_inherit_10 n10) x1 x2 x3 x4 s0 M = some M0 → Wd K A s (wC K a d M) H locs → lv_has ls 6 [(0, .ref (a 5)), (1, .int x1), (2, .int x2), (3, .int x3), (4, .int x4)] → W p l e ({ frames := 1, cells := 0, slots := 0, locals := 21 } : Room) s m args below meth c H locs 0 0 (EndV K A (fun _ => wC K a d M0) below args s ({ frames := 1, cells := 0, slots := 0, locals := 21 } : Room)) (F0 m 37 ls [.int (bI s0)]) := by
        intro x1 x2 x3 x4 s0 M H locs ls h hW hl
        unfold f_X2_inherit_37 at h
        refine lv_istore (lv' := [(5, .int (bI s0)), (0, .ref (a 5)), (1, .int x1), (2, .int x2), (3, .int x3), (4, .int x4)]) hx hb dX2_inherit_37 hl (by decide) rfl (fun ls hl => ?_)
        refine lv_aload_n hx hb dX2_inherit_39 rfl (lv_at hl 1 rfl) ?_
        refine g_X2_36 hF hW dX2_inherit_40 ?_
        refine lv_iload_n hx hb dX2_inherit_43 rfl (lv_at hl 2 rfl) ?_
        refine lv_iconst (v := 4) hx hb dX2_inherit_44 (by decide) ?_
        refine lv_imul hx hb dX2_inherit_45 ?_
        refine lv_iload hx hb dX2_inherit_46 (lv_at hl 5 rfl) ?_
        refine lv_iadd hx hb dX2_inherit_48 ?_
        refine lv_iload hx hb dX2_inherit_49 (lv_at hl 0 rfl) ?_
        refine lz_eq (tgt := 58) hx hb dX2_inherit_51 (by decide) (fun q10 => ?_) (fun q10 => ?_)
        · have h := ifn q10 h
          refine lv_aload_n hx hb dX2_inherit_58 rfl (lv_at hl 1 rfl) ?_
          refine g_X2_36 hF hW dX2_inherit_59 ?_
          refine lv_iload_n hx hb dX2_inherit_62 rfl (lv_at hl 3 rfl) ?_
          refine lv_iconst (v := 4) hx hb dX2_inherit_63 (by decide) ?_
          refine lv_imul hx hb dX2_inherit_64 ?_
          refine lv_iload hx hb dX2_inherit_65 (lv_at hl 5 rfl) ?_
          refine lv_iadd hx hb dX2_inherit_67 ?_
          obtain ⟨q11, h⟩ := ck_some h
          refine w_ild hF hW (pC_14 K a d _) q11 dX2_inherit_68 ?_
          obtain ⟨q12, h⟩ := ck_some h
          refine w_ist hF hW (pC_14 K a d _) q12 (uC_14 K a d _ _ _) dX2_inherit_69 (fun H locs hW => ?_)
          refine lv_iinc (v := (x4 + 1)) (lv' := [(4, .int (x4 + 1)), (5, .int (bI s0)), (0, .ref (a 5)), (1, .int x1), (2, .int x2), (3, .int x3)]) hx hb dX2_inherit_70 hl (k := 5) rfl rfl (by decide) rfl (fun ls hl => ?_)
          refine lv_goto (tgt := 10) hx hb dX2_inherit_73 (by decide) ?_
          exact ih10 x1 x2 x3 (x4 + 1) _ _ _ _ h hW (lv_sub hl [2, 3, 4, 5, 0] rfl)
        · have h := ifp q10 h
          refine lv_iload_n hx hb dX2_inherit_54 rfl (lv_at hl 3 rfl) ?_
          refine lv_goto (tgt := 69) hx hb dX2_inherit_55 (by decide) ?_
          obtain ⟨q13, h⟩ := ck_some h
          refine w_ist hF hW (pC_14 K a d _) q13 (uC_14 K a d _ _ _) dX2_inherit_69 (fun H locs hW => ?_)
          refine lv_iinc (v := (x4 + 1)) (lv' := [(4, .int (x4 + 1)), (5, .int (bI s0)), (0, .ref (a 5)), (1, .int x1), (2, .int x2), (3, .int x3)]) hx hb dX2_inherit_70 hl (k := 5) rfl rfl (by decide) rfl (fun ls hl => ?_)
          refine lv_goto (tgt := 10) hx hb dX2_inherit_73 (by decide) ?_
          exact ih10 x1 x2 x3 (x4 + 1) _ _ _ _ h hW (lv_sub hl [2, 3, 4, 5, 0] rfl)
      have J36 : ∀ (x1 : Int32) (x2 : Int32) (x3 : Int32) (x4 : Int32) (M : Mem) (H : Heap) (locs : List Loc) (ls : Array Slot), f_X2_inherit_36 (f_X2_inherit_37 (f_X2_inherit_10 n10)) x1 x2 x3 x4 M = some M0 → Wd K A s (wC K a d M) H locs → lv_has ls 6 [(0, .ref (a 5)), (1, .int x1), (2, .int x2), (3, .int x3), (4, .int x4)] → W p l e ({ frames := 1, cells := 0, slots := 0, locals := 21 } : Room) s m args below meth c H locs 0 0 (EndV K A (fun _ => wC K a d M0) below args s ({ frames := 1, cells := 0, slots := 0, locals := 21 } : Room)) (F0 m 36 ls []) := by
        intro x1 x2 x3 x4 M H locs ls h hW hl
        unfold f_X2_inherit_36 at h
        refine lv_iconst (v := 0) hx hb dX2_inherit_36 (by decide) ?_
        exact J37 x1 x2 x3 x4 false _ _ _ _ h hW (lv_sub hl [0, 1, 2, 3, 4] rfl)
      have J99 : ∀ (n99 : Nat) (x1 : Int32) (x2 : Int32) (x3 : Int32) (x4 : Int32) (x5 : Int32) (M : Mem) (H : Heap) (locs : List Loc) (ls : Array Slot), f_X2_inherit_99 n99 x1 x2 x3 x4 x5 M = some M0 → Wd K A s (wC K a d M) H locs → lv_has ls 6 [(0, .ref (a 5)), (1, .int x1), (2, .int x2), (3, .int x3), (4, .int x4), (5, .int x5)] → W p l e ({ frames := 1, cells := 0, slots := 0, locals := 21 } : Room) s m args below meth c H locs 0 0 (EndV K A (fun _ => wC K a d M0) below args s ({ frames := 1, cells := 0, slots := 0, locals := 21 } : Room)) (F0 m 99 ls []) := by
        intro n99
        induction n99 with
        | zero => intro x1 x2 x3 x4 x5 M H locs ls h; exact absurd h (by simp [f_X2_inherit_99])
        | succ n99 ih99 =>
          intro x1 x2 x3 x4 x5 M H locs ls h hW hl
          rw [f_X2_inherit_99] at h
          refine lv_iload hx hb dX2_inherit_99 (lv_at hl 5 rfl) ?_
          refine lv_iload_n hx hb dX2_inherit_101 rfl (lv_at hl 3 rfl) ?_
          refine lv_icmp_gt (tgt := 144) hx hb dX2_inherit_102 (by decide) (fun q14 => ?_) (fun q14 => ?_)
          · have h := ifp q14 h
            obtain rfl := Option.some.inj h
            exact rt_v hF hr hk (fun _ => 0) hW dX2_inherit_144
          · have h := ifn q14 h
            refine lv_aload_n hx hb dX2_inherit_105 rfl (lv_at hl 0 rfl) ?_
            refine g_X2_39 hF hW dX2_inherit_106 ?_
            refine lv_iload_n hx hb dX2_inherit_109 rfl (lv_at hl 1 rfl) ?_
            refine lv_iconst (v := 5) hx hb dX2_inherit_110 (by decide) ?_
            refine lv_imul hx hb dX2_inherit_111 ?_
            refine lv_iload hx hb dX2_inherit_112 (lv_at hl 5 rfl) ?_
            refine lv_iadd hx hb dX2_inherit_114 ?_
            refine lv_iload hx hb dX2_inherit_115 (lv_at hl 5 rfl) ?_
            refine lv_iload hx hb dX2_inherit_117 (lv_at hl 4 rfl) ?_
            refine lv_icmp_ge (tgt := 136) hx hb dX2_inherit_119 (by decide) (fun q15 => ?_) (fun q15 => ?_)
            · have h := ifp q15 h
              refine lv_iload_n hx hb dX2_inherit_136 rfl (lv_at hl 1 rfl) ?_
              obtain ⟨q16, h⟩ := ck_some h
              refine w_ist hF hW (pC_15 K a d _) q16 (uC_15 K a d _ _ _) dX2_inherit_137 (fun H locs hW => ?_)
              refine lv_iinc (v := (x5 + 1)) (lv' := [(5, .int (x5 + 1)), (0, .ref (a 5)), (1, .int x1), (2, .int x2), (3, .int x3), (4, .int x4)]) hx hb dX2_inherit_138 hl (k := 5) rfl rfl (by decide) rfl (fun ls hl => ?_)
              refine lv_goto (tgt := 99) hx hb dX2_inherit_141 (by decide) ?_
              exact ih99 x1 x2 x3 x4 (x5 + 1) _ _ _ _ h hW (lv_sub hl [1, 2, 3, 4, 5, 0] rfl)
            · have h := ifn q15 h
              refine lv_aload_n hx hb dX2_inherit_122 rfl (lv_at hl 0 rfl) ?_
              refine g_X2_39 hF hW dX2_inherit_123 ?_
              refine lv_iload_n hx hb dX2_inherit_126 rfl (lv_at hl 2 rfl) ?_
              refine lv_iconst (v := 5) hx hb dX2_inherit_127 (by decide) ?_
              refine lv_imul hx hb dX2_inherit_128 ?_
              refine lv_iload hx hb dX2_inherit_129 (lv_at hl 5 rfl) ?_
              refine lv_iadd hx hb dX2_inherit_131 ?_
              obtain ⟨q17, h⟩ := ck_some h
              refine w_ild hF hW (pC_15 K a d _) q17 dX2_inherit_132 ?_
              refine lv_goto (tgt := 137) hx hb dX2_inherit_133 (by decide) ?_
              obtain ⟨q18, h⟩ := ck_some h
              refine w_ist hF hW (pC_15 K a d _) q18 (uC_15 K a d _ _ _) dX2_inherit_137 (fun H locs hW => ?_)
              refine lv_iinc (v := (x5 + 1)) (lv' := [(5, .int (x5 + 1)), (0, .ref (a 5)), (1, .int x1), (2, .int x2), (3, .int x3), (4, .int x4)]) hx hb dX2_inherit_138 hl (k := 5) rfl rfl (by decide) rfl (fun ls hl => ?_)
              refine lv_goto (tgt := 99) hx hb dX2_inherit_141 (by decide) ?_
              exact ih99 x1 x2 x3 x4 (x5 + 1) _ _ _ _ h hW (lv_sub hl [1, 2, 3, 4, 5, 0] rfl)
      intro x1 x2 x3 x4 M H locs ls h hW hl
      rw [f_X2_inherit_10] at h
      refine lv_iload hx hb dX2_inherit_10 (lv_at hl 4 rfl) ?_
      refine lv_iload_n hx hb dX2_inherit_12 rfl (lv_at hl 3 rfl) ?_
      refine lv_icmp_ge (tgt := 76) hx hb dX2_inherit_13 (by decide) (fun q2 => ?_) (fun q2 => ?_)
      · have h := ifp q2 h
        refine lv_iload_n hx hb dX2_inherit_76 rfl (lv_at hl 2 rfl) ?_
        refine lv_bipush (v := (-9)) hx hb dX2_inherit_77 (by decide) ?_
        refine lv_icmp_ne (tgt := 86) hx hb dX2_inherit_79 (by decide) (fun q3 => ?_) (fun q3 => ?_)
        · have h := ifn q3 h
          refine lv_aload_n hx hb dX2_inherit_86 rfl (lv_at hl 0 rfl) ?_
          refine g_X2_27 hF hW dX2_inherit_87 ?_
          refine lv_iload_n hx hb dX2_inherit_90 rfl (lv_at hl 2 rfl) ?_
          obtain ⟨q4, h⟩ := ck_some h
          refine w_ild hF hW (pC_11 K a d _) q4 dX2_inherit_91 ?_
          refine lv_iconst (v := 1) hx hb dX2_inherit_92 (by decide) ?_
          refine lv_iadd hx hb dX2_inherit_93 ?_
          refine lv_istore (lv' := [(4, .int ((M.1 11 x2.toNatClampNeg) + 1)), (0, .ref (a 5)), (1, .int x1), (2, .int x2), (3, .int x3)]) hx hb dX2_inherit_94 hl (by decide) rfl (fun ls hl => ?_)
          refine lv_iconst (v := 0) hx hb dX2_inherit_96 (by decide) ?_
          refine lv_istore (lv' := [(5, .int 0), (4, .int ((M.1 11 x2.toNatClampNeg) + 1)), (0, .ref (a 5)), (1, .int x1), (2, .int x2), (3, .int x3)]) hx hb dX2_inherit_97 hl (by decide) rfl (fun ls hl => ?_)
          exact J99 100000 x1 x2 x3 ((M.1 11 x2.toNatClampNeg) + 1) 0 _ _ _ _ h hW (lv_sub hl [2, 3, 4, 5, 1, 0] rfl)
        · have h := ifp q3 h
          refine lv_iconst (v := 0) hx hb dX2_inherit_82 (by decide) ?_
          refine lv_goto (tgt := 94) hx hb dX2_inherit_83 (by decide) ?_
          refine lv_istore (lv' := [(4, .int 0), (0, .ref (a 5)), (1, .int x1), (2, .int x2), (3, .int x3)]) hx hb dX2_inherit_94 hl (by decide) rfl (fun ls hl => ?_)
          refine lv_iconst (v := 0) hx hb dX2_inherit_96 (by decide) ?_
          refine lv_istore (lv' := [(5, .int 0), (4, .int 0), (0, .ref (a 5)), (1, .int x1), (2, .int x2), (3, .int x3)]) hx hb dX2_inherit_97 hl (by decide) rfl (fun ls hl => ?_)
          exact J99 100000 x1 x2 x3 0 0 _ _ _ _ h hW (lv_sub hl [2, 3, 4, 5, 1, 0] rfl)
      · have h := ifn q2 h
        refine lv_iload hx hb dX2_inherit_16 (lv_at hl 4 rfl) ?_
        refine lv_iload_n hx hb dX2_inherit_18 rfl (lv_at hl 3 rfl) ?_
        refine lv_iconst (v := 1) hx hb dX2_inherit_19 (by decide) ?_
        refine lv_isub hx hb dX2_inherit_20 ?_
        refine lv_icmp_ne (tgt := 36) hx hb dX2_inherit_21 (by decide) (fun q5 => ?_) (fun q5 => ?_)
        · have h := ifn q5 h
          exact J36 x1 x2 x3 x4 _ _ _ _ h hW (lv_sub hl [0, 1, 2, 3, 4] rfl)
        · have h := ifp q5 h
          refine lv_aload_n hx hb dX2_inherit_24 rfl (lv_at hl 0 rfl) ?_
          refine lv_iload_n hx hb dX2_inherit_25 rfl (lv_at hl 2 rfl) ?_
          obtain ⟨r6, hc8, h⟩ := bq_some h
          refine cV_i (ci := 2) (q0 := 5) (rest := []) hF hW mw_X2_70 (c_X2_isLoop l K a d hc8) ⟨Nat.le_of_ble_eq_true rfl, Nat.le_of_ble_eq_true rfl⟩ rfl rfl (pC_5 K a d _) rfl hl.1 rfl (Nat.le_of_ble_eq_true rfl) dX2_inherit_26 ⟨Nat.le_of_ble_eq_true rfl, Nat.le_of_ble_eq_true rfl⟩ (fun _ H locs hW => ?_)
          refine lz_eq (tgt := 36) hx hb dX2_inherit_29 (by decide) (fun q9 => ?_) (fun q9 => ?_)
          · have h := ifn q9 h
            exact J36 x1 x2 x3 x4 _ _ _ _ h hW (lv_sub hl [0, 1, 2, 3, 4] rfl)
          · have h := ifp q9 h
            refine lv_iconst (v := 1) hx hb dX2_inherit_32 (by decide) ?_
            refine lv_goto (tgt := 37) hx hb dX2_inherit_33 (by decide) ?_
            exact J37 x1 x2 x3 x4 true _ _ _ _ h hW (lv_sub hl [0, 1, 2, 3, 4] rfl)
  unfold f_X2_inherit at h
  refine lv_aload_n hx hb dX2_inherit_0 rfl (lv_at hl 0 rfl) ?_
  refine g_X2_27 hF hW dX2_inherit_1 ?_
  refine lv_iload_n hx hb dX2_inherit_4 rfl (lv_at hl 1 rfl) ?_
  obtain ⟨q1, h⟩ := ck_some h
  refine w_ild hF hW (pC_11 K a d _) q1 dX2_inherit_5 ?_
  refine lv_istore_n (lv' := [(3, .int (M.1 11 x1.toNatClampNeg)), (0, .ref (a 5)), (1, .int x1), (2, .int x2)]) hx hb dX2_inherit_6 rfl hl (by decide) rfl (fun ls hl => ?_)
  refine lv_iconst (v := 0) hx hb dX2_inherit_7 (by decide) ?_
  refine lv_istore (lv' := [(4, .int 0), (3, .int (M.1 11 x1.toNatClampNeg)), (0, .ref (a 5)), (1, .int x1), (2, .int x2)]) hx hb dX2_inherit_8 hl (by decide) rfl (fun ls hl => ?_)
  exact J10 100000 x1 x2 (M.1 11 x1.toNatClampNeg) 0 _ _ _ _ h hW (lv_sub hl [2, 3, 4, 1, 0] rfl)
set_option maxRecDepth 100000 in
set_option maxHeartbeats 1000000 in
theorem c_X2_hang (l : Launch) (K : Kx) (a d : Nat → Nat) {M M0 : Mem} {x1 : Int32} {x2 : Int32}  (h : f_X2_hang M x1 x2 = some M0) : CMv l yX2_hang cX2_hang 3 ({ frames := 0, cells := 0, slots := 0, locals := 0 } : Room) K [.ref (a 5), .int x1, .int x2] (wC K a d M) (fun _ => wC K a d M0) := by
  refine cs_v (by decide +kernel) (Nat.le_of_ble_eq_true rfl) ?_
  intro p e s m args below meth c A ls hF hr hk hnm hW hl
  have hx := hF.1
  have hb := hF.2.1
  have hl : lv_has ls 3 [(0, .ref (a 5)), (1, .int x1), (2, .int x2)] := hl
  obtain ⟨H, hH⟩ : ∃ z, z = s.heap := ⟨_, rfl⟩
  rw [← hH] at hW ⊢
  unfold f_X2_hang at h
  refine lv_aload_n hx hb dX2_hang_0 rfl (lv_at hl 0 rfl) ?_
  refine g_X2_9 hF hW dX2_hang_1 ?_
  refine lv_iload_n hx hb dX2_hang_4 rfl (lv_at hl 1 rfl) ?_
  refine lv_bipush (v := (-9)) hx hb dX2_hang_5 (by decide) ?_
  obtain ⟨q1, h⟩ := ck_some h
  refine w_ist hF hW (pC_6 K a d _) q1 (uC_6 K a d _ _ _) dX2_hang_7 (fun H locs hW => ?_)
  refine lv_aload_n hx hb dX2_hang_8 rfl (lv_at hl 0 rfl) ?_
  refine g_X2_15 hF hW dX2_hang_9 ?_
  refine lv_iload_n hx hb dX2_hang_12 rfl (lv_at hl 1 rfl) ?_
  refine lv_bipush (v := (-9)) hx hb dX2_hang_13 (by decide) ?_
  obtain ⟨q2, h⟩ := ck_some h
  refine w_ist hF hW (pC_7 K a d _) q2 (uC_7 K a d _ _ _) dX2_hang_15 (fun H locs hW => ?_)
  refine lv_aload_n hx hb dX2_hang_16 rfl (lv_at hl 0 rfl) ?_
  refine g_X2_18 hF hW dX2_hang_17 ?_
  refine lv_iload_n hx hb dX2_hang_20 rfl (lv_at hl 1 rfl) ?_
  refine lv_bipush (v := (-9)) hx hb dX2_hang_21 (by decide) ?_
  obtain ⟨q3, h⟩ := ck_some h
  refine w_ist hF hW (pC_8 K a d _) q3 (uC_8 K a d _ _ _) dX2_hang_23 (fun H locs hW => ?_)
  refine lv_aload_n hx hb dX2_hang_24 rfl (lv_at hl 0 rfl) ?_
  refine g_X2_15 hF hW dX2_hang_25 ?_
  refine lv_iload_n hx hb dX2_hang_28 rfl (lv_at hl 2 rfl) ?_
  obtain ⟨q4, h⟩ := ck_some h
  refine w_ild hF hW (pC_7 K a d _) q4 dX2_hang_29 ?_
  refine lv_bipush (v := (-9)) hx hb dX2_hang_30 (by decide) ?_
  refine lv_icmp_ne (tgt := 45) hx hb dX2_hang_32 (by decide) (fun q5 => ?_) (fun q5 => ?_)
  · have h := ifn q5 h
    refine lv_aload_n hx hb dX2_hang_45 rfl (lv_at hl 0 rfl) ?_
    refine g_X2_18 hF hW dX2_hang_46 ?_
    refine lv_aload_n hx hb dX2_hang_49 rfl (lv_at hl 0 rfl) ?_
    refine g_X2_15 hF hW dX2_hang_50 ?_
    refine lv_iload_n hx hb dX2_hang_53 rfl (lv_at hl 2 rfl) ?_
    obtain ⟨q6, h⟩ := ck_some h
    refine w_ild hF hW (pC_7 K a d _) q6 dX2_hang_54 ?_
    refine lv_iload_n hx hb dX2_hang_55 rfl (lv_at hl 1 rfl) ?_
    obtain ⟨q7, h⟩ := ck_some h
    refine w_ist hF hW (pC_8 K a d _) q7 (uC_8 K a d _ _ _) dX2_hang_56 (fun H locs hW => ?_)
    refine lv_aload_n hx hb dX2_hang_57 rfl (lv_at hl 0 rfl) ?_
    refine g_X2_15 hF hW dX2_hang_58 ?_
    refine lv_iload_n hx hb dX2_hang_61 rfl (lv_at hl 2 rfl) ?_
    refine lv_iload_n hx hb dX2_hang_62 rfl (lv_at hl 1 rfl) ?_
    obtain ⟨q8, h⟩ := ck_some h
    refine w_ist hF hW (pC_7 K a d _) q8 (uC_7 K a d _ _ _) dX2_hang_63 (fun H locs hW => ?_)
    obtain rfl := Option.some.inj h
    exact rt_v hF hr hk (fun _ => 0) hW dX2_hang_64
  · have h := ifp q5 h
    refine lv_aload_n hx hb dX2_hang_35 rfl (lv_at hl 0 rfl) ?_
    refine g_X2_9 hF hW dX2_hang_36 ?_
    refine lv_iload_n hx hb dX2_hang_39 rfl (lv_at hl 2 rfl) ?_
    refine lv_iload_n hx hb dX2_hang_40 rfl (lv_at hl 1 rfl) ?_
    obtain ⟨q9, h⟩ := ck_some h
    refine w_ist hF hW (pC_6 K a d _) q9 (uC_6 K a d _ _ _) dX2_hang_41 (fun H locs hW => ?_)
    refine lv_goto (tgt := 57) hx hb dX2_hang_42 (by decide) ?_
    refine lv_aload_n hx hb dX2_hang_57 rfl (lv_at hl 0 rfl) ?_
    refine g_X2_15 hF hW dX2_hang_58 ?_
    refine lv_iload_n hx hb dX2_hang_61 rfl (lv_at hl 2 rfl) ?_
    refine lv_iload_n hx hb dX2_hang_62 rfl (lv_at hl 1 rfl) ?_
    obtain ⟨q10, h⟩ := ck_some h
    refine w_ist hF hW (pC_7 K a d _) q10 (uC_7 K a d _ _ _) dX2_hang_63 (fun H locs hW => ?_)
    obtain rfl := Option.some.inj h
    exact rt_v hF hr hk (fun _ => 0) hW dX2_hang_64
set_option maxRecDepth 100000 in
set_option maxHeartbeats 1000000 in
theorem c_X2_setAim (l : Launch) (K : Kx) (a d : Nat → Nat) {M M0 : Mem} {x1 : Int32} {x2 : Int32} {x3 : Int32} {x4 : Int32}  (h : f_X2_setAim M x1 x2 x3 x4 = some M0) : CMv l yX2_setAim cX2_setAim 5 ({ frames := 0, cells := 0, slots := 0, locals := 0 } : Room) K [.ref (a 5), .int x1, .int x2, .int x3, .int x4] (wC K a d M) (fun _ => wC K a d M0) := by
  refine cs_v (by decide +kernel) (Nat.le_of_ble_eq_true rfl) ?_
  intro p e s m args below meth c A ls hF hr hk hnm hW hl
  have hx := hF.1
  have hb := hF.2.1
  have hl : lv_has ls 5 [(0, .ref (a 5)), (1, .int x1), (2, .int x2), (3, .int x3), (4, .int x4)] := hl
  obtain ⟨H, hH⟩ : ∃ z, z = s.heap := ⟨_, rfl⟩
  rw [← hH] at hW ⊢
  unfold f_X2_setAim at h
  refine lv_aload_n hx hb dX2_setAim_0 rfl (lv_at hl 0 rfl) ?_
  refine g_X2_55 hF hW dX2_setAim_1 ?_
  refine lv_iload_n hx hb dX2_setAim_4 rfl (lv_at hl 1 rfl) ?_
  refine lv_iload_n hx hb dX2_setAim_5 rfl (lv_at hl 2 rfl) ?_
  obtain ⟨q1, h⟩ := ck_some h
  refine w_ist hF hW (pC_18 K a d _) q1 (uC_18 K a d _ _ _) dX2_setAim_6 (fun H locs hW => ?_)
  refine lv_aload_n hx hb dX2_setAim_7 rfl (lv_at hl 0 rfl) ?_
  refine g_X2_58 hF hW dX2_setAim_8 ?_
  refine lv_iload_n hx hb dX2_setAim_11 rfl (lv_at hl 1 rfl) ?_
  refine lv_iload_n hx hb dX2_setAim_12 rfl (lv_at hl 3 rfl) ?_
  obtain ⟨q2, h⟩ := ck_some h
  refine w_ist hF hW (pC_19 K a d _) q2 (uC_19 K a d _ _ _) dX2_setAim_13 (fun H locs hW => ?_)
  refine lv_aload_n hx hb dX2_setAim_14 rfl (lv_at hl 0 rfl) ?_
  refine g_X2_61 hF hW dX2_setAim_15 ?_
  refine lv_iload_n hx hb dX2_setAim_18 rfl (lv_at hl 1 rfl) ?_
  refine lv_iload hx hb dX2_setAim_19 (lv_at hl 4 rfl) ?_
  obtain ⟨q3, h⟩ := ck_some h
  refine w_ist hF hW (pC_20 K a d _) q3 (uC_20 K a d _ _ _) dX2_setAim_21 (fun H locs hW => ?_)
  obtain rfl := Option.some.inj h
  exact rt_v hF hr hk (fun _ => 0) hW dX2_setAim_22
set_option maxRecDepth 100000 in
set_option maxHeartbeats 1000000 in
theorem c_X2_tell (l : Launch) (K : Kx) (a d : Nat → Nat) {M : Mem} {x1 : Int32} {x2 : Int32} {r0 : Int32} (h : f_X2_tell M x1 x2 = some r0) : CMi l yX2_tell cX2_tell 3 (some .int) ({ frames := 0, cells := 0, slots := 0, locals := 0 } : Room) K [.ref (a 5), .int x1, .int x2] (wC K a d M) (fun _ => wC K a d M) r0 := by
  refine cs_i (by decide +kernel) (Nat.le_of_ble_eq_true rfl) ?_
  intro p e s m args below meth c A ls hF hr hk hnm hW hl
  have hx := hF.1
  have hb := hF.2.1
  have hl : lv_has ls 3 [(0, .ref (a 5)), (1, .int x1), (2, .int x2)] := hl
  obtain ⟨H, hH⟩ : ∃ z, z = s.heap := ⟨_, rfl⟩
  rw [← hH] at hW ⊢
  unfold f_X2_tell at h
  refine lv_iload_n hx hb dX2_tell_0 rfl (lv_at hl 2 rfl) ?_
  by_cases q1 : x2 = 0
  · have h := ifp q1 h
    refine lv_tableIn (tgt := 32) hx hb dX2_tell_1 (by rw [q1]; decide) (by rw [q1]; decide) (by rw [q1]; rfl) (by decide) ?_
    refine lv_aload_n hx hb dX2_tell_32 rfl (lv_at hl 0 rfl) ?_
    refine g_X2_21 hF hW dX2_tell_33 ?_
    refine lv_iload_n hx hb dX2_tell_36 rfl (lv_at hl 1 rfl) ?_
    obtain ⟨q2, h⟩ := ck_some h
    refine w_ild hF hW (pC_9 K a d _) q2 dX2_tell_37 ?_
    obtain rfl := Option.some.inj h
    exact rt_i hF hr hk rfl (fun _ => 0) hW rfl dX2_tell_38
  have h := ifn q1 h
  by_cases q3 : x2 = 1
  · have h := ifp q3 h
    refine lv_tableIn (tgt := 39) hx hb dX2_tell_1 (by rw [q3]; decide) (by rw [q3]; decide) (by rw [q3]; rfl) (by decide) ?_
    refine lv_aload_n hx hb dX2_tell_39 rfl (lv_at hl 0 rfl) ?_
    refine g_X2_24 hF hW dX2_tell_40 ?_
    refine lv_iload_n hx hb dX2_tell_43 rfl (lv_at hl 1 rfl) ?_
    obtain ⟨q4, h⟩ := ck_some h
    refine w_ild hF hW (pC_10 K a d _) q4 dX2_tell_44 ?_
    obtain rfl := Option.some.inj h
    exact rt_i hF hr hk rfl (fun _ => 0) hW rfl dX2_tell_45
  have h := ifn q3 h
  by_cases q5 : x2 = 2
  · have h := ifp q5 h
    refine lv_tableIn (tgt := 46) hx hb dX2_tell_1 (by rw [q5]; decide) (by rw [q5]; decide) (by rw [q5]; rfl) (by decide) ?_
    refine lv_aload_n hx hb dX2_tell_46 rfl (lv_at hl 0 rfl) ?_
    refine g_X2_27 hF hW dX2_tell_47 ?_
    refine lv_iload_n hx hb dX2_tell_50 rfl (lv_at hl 1 rfl) ?_
    obtain ⟨q6, h⟩ := ck_some h
    refine w_ild hF hW (pC_11 K a d _) q6 dX2_tell_51 ?_
    obtain rfl := Option.some.inj h
    exact rt_i hF hr hk rfl (fun _ => 0) hW rfl dX2_tell_52
  have h := ifn q5 h
  by_cases q7 : x2 = 3
  · have h := ifp q7 h
    refine lv_tableIn (tgt := 53) hx hb dX2_tell_1 (by rw [q7]; decide) (by rw [q7]; decide) (by rw [q7]; rfl) (by decide) ?_
    refine lv_aload_n hx hb dX2_tell_53 rfl (lv_at hl 0 rfl) ?_
    refine g_X2_30 hF hW dX2_tell_54 ?_
    refine lv_iload_n hx hb dX2_tell_57 rfl (lv_at hl 1 rfl) ?_
    obtain ⟨q8, h⟩ := ck_some h
    refine w_ild hF hW (pC_12 K a d _) q8 dX2_tell_58 ?_
    obtain rfl := Option.some.inj h
    exact rt_i hF hr hk rfl (fun _ => 0) hW rfl dX2_tell_59
  have h := ifn q7 h
  refine lv_tableOut (tgt := 60) hx hb dX2_tell_1 (by have := lv_neT (a := 0) q1 (by decide) ; have := lv_neT (a := 1) q3 (by decide) ; have := lv_neT (a := 2) q5 (by decide) ; have := lv_neT (a := 3) q7 (by decide); omega) (by decide) ?_
  refine lv_aload_n hx hb dX2_tell_60 rfl (lv_at hl 0 rfl) ?_
  refine g_X2_33 hF hW dX2_tell_61 ?_
  refine lv_iload_n hx hb dX2_tell_64 rfl (lv_at hl 1 rfl) ?_
  obtain ⟨q9, h⟩ := ck_some h
  refine w_ild hF hW (pC_13 K a d _) q9 dX2_tell_65 ?_
  obtain rfl := Option.some.inj h
  exact rt_i hF hr hk rfl (fun _ => 0) hW rfl dX2_tell_66
set_option maxRecDepth 100000 in
set_option maxHeartbeats 1000000 in
theorem c_X2_placeOf (l : Launch) (K : Kx) (a d : Nat → Nat) {M : Mem} {x1 : Int32} {x2 : Int32} {r0 : Int32} (h : f_X2_placeOf M x1 x2 = some r0) : CMi l yX2_placeOf cX2_placeOf 3 (some .int) ({ frames := 0, cells := 0, slots := 0, locals := 0 } : Room) K [.ref (a 5), .int x1, .int x2] (wC K a d M) (fun _ => wC K a d M) r0 := by
  refine cs_i (by decide +kernel) (Nat.le_of_ble_eq_true rfl) ?_
  intro p e s m args below meth c A ls hF hr hk hnm hW hl
  have hx := hF.1
  have hb := hF.2.1
  have hl : lv_has ls 3 [(0, .ref (a 5)), (1, .int x1), (2, .int x2)] := hl
  obtain ⟨H, hH⟩ : ∃ z, z = s.heap := ⟨_, rfl⟩
  rw [← hH] at hW ⊢
  unfold f_X2_placeOf at h
  refine lv_aload_n hx hb dX2_placeOf_0 rfl (lv_at hl 0 rfl) ?_
  refine g_X2_39 hF hW dX2_placeOf_1 ?_
  refine lv_aload_n hx hb dX2_placeOf_4 rfl (lv_at hl 0 rfl) ?_
  refine g_X2_46 hF hW dX2_placeOf_5 ?_
  refine lv_iload_n hx hb dX2_placeOf_8 rfl (lv_at hl 1 rfl) ?_
  obtain ⟨q1, h⟩ := ck_some h
  refine w_ild hF hW (pC_16 K a d _) q1 dX2_placeOf_9 ?_
  refine lv_iconst (v := 5) hx hb dX2_placeOf_10 (by decide) ?_
  refine lv_imul hx hb dX2_placeOf_11 ?_
  refine lv_iload_n hx hb dX2_placeOf_12 rfl (lv_at hl 2 rfl) ?_
  refine lv_iadd hx hb dX2_placeOf_13 ?_
  obtain ⟨q2, h⟩ := ck_some h
  refine w_ild hF hW (pC_15 K a d _) q2 dX2_placeOf_14 ?_
  obtain rfl := Option.some.inj h
  exact rt_i hF hr hk rfl (fun _ => 0) hW rfl dX2_placeOf_15
set_option maxRecDepth 100000 in
set_option maxHeartbeats 1000000 in
theorem c_X2_stands (l : Launch) (K : Kx) (a d : Nat → Nat) {M : Mem} {x1 : Int32} {x2 : Int32} {r0 : Bool} (h : f_X2_stands M x1 x2 = some r0) : CMi l yX2_stands cX2_stands 5 (some .boolean) ({ frames := 0, cells := 0, slots := 0, locals := 0 } : Room) K [.ref (a 5), .int x1, .int x2] (wC K a d M) (fun _ => wC K a d M) (bI r0) := by
  refine cs_i (by decide +kernel) (Nat.le_of_ble_eq_true rfl) ?_
  intro p e s m args below meth c A ls hF hr hk hnm hW hl
  have hx := hF.1
  have hb := hF.2.1
  have hl : lv_has ls 5 [(0, .ref (a 5)), (1, .int x1), (2, .int x2)] := hl
  obtain ⟨H, hH⟩ : ∃ z, z = s.heap := ⟨_, rfl⟩
  rw [← hH] at hW ⊢
  unfold f_X2_stands at h
  refine lv_aload_n hx hb dX2_stands_0 rfl (lv_at hl 0 rfl) ?_
  refine g_X2_46 hF hW dX2_stands_1 ?_
  refine lv_iload_n hx hb dX2_stands_4 rfl (lv_at hl 1 rfl) ?_
  obtain ⟨q1, h⟩ := ck_some h
  refine w_ild hF hW (pC_16 K a d _) q1 dX2_stands_5 ?_
  refine lv_istore_n (lv' := [(3, .int (M.1 16 x1.toNatClampNeg)), (0, .ref (a 5)), (1, .int x1), (2, .int x2)]) hx hb dX2_stands_6 rfl hl (by decide) rfl (fun ls hl => ?_)
  refine lv_aload_n hx hb dX2_stands_7 rfl (lv_at hl 1 rfl) ?_
  refine g_X2_27 hF hW dX2_stands_8 ?_
  refine lv_iload_n hx hb dX2_stands_11 rfl (lv_at hl 3 rfl) ?_
  obtain ⟨q2, h⟩ := ck_some h
  refine w_ild hF hW (pC_11 K a d _) q2 dX2_stands_12 ?_
  refine lv_istore (lv' := [(4, .int (M.1 11 x2.toNatClampNeg)), (3, .int (M.1 16 x1.toNatClampNeg)), (0, .ref (a 5)), (1, .int x1), (2, .int x2)]) hx hb dX2_stands_13 hl (by decide) rfl (fun ls hl => ?_)
  refine lv_iload hx hb dX2_stands_15 (lv_at hl 0 rfl) ?_
  refine lv_aload_n hx hb dX2_stands_17 rfl (lv_at hl 2 rfl) ?_
  refine g_X2_27 hF hW dX2_stands_18 ?_
  refine lv_iload_n hx hb dX2_stands_21 rfl (lv_at hl 1 rfl) ?_
  obtain ⟨q3, h⟩ := ck_some h
  refine w_ild hF hW (pC_11 K a d _) q3 dX2_stands_22 ?_
  refine lv_icmp_ge (tgt := 45) hx hb dX2_stands_23 (by decide) (fun q4 => ?_) (fun q4 => ?_)
  · have h := ifp q4 h
    refine lv_iconst (v := 0) hx hb dX2_stands_45 (by decide) ?_
    obtain rfl := Option.some.inj h
    exact rt_i hF hr hk (bI_n false) (fun _ => 0) hW rfl dX2_stands_46
  · have h := ifn q4 h
    refine lv_aload_n hx hb dX2_stands_26 rfl (lv_at hl 2 rfl) ?_
    refine g_X2_36 hF hW dX2_stands_27 ?_
    refine lv_iload_n hx hb dX2_stands_30 rfl (lv_at hl 1 rfl) ?_
    refine lv_iconst (v := 4) hx hb dX2_stands_31 (by decide) ?_
    refine lv_imul hx hb dX2_stands_32 ?_
    refine lv_iload hx hb dX2_stands_33 (lv_at hl 0 rfl) ?_
    refine lv_iadd hx hb dX2_stands_35 ?_
    obtain ⟨q5, h⟩ := ck_some h
    refine w_ild hF hW (pC_14 K a d _) q5 dX2_stands_36 ?_
    refine lv_iload_n hx hb dX2_stands_37 rfl (lv_at hl 4 rfl) ?_
    refine lv_icmp_ne (tgt := 45) hx hb dX2_stands_38 (by decide) (fun q6 => ?_) (fun q6 => ?_)
    · have h := ifn q6 h
      refine lv_iconst (v := 0) hx hb dX2_stands_45 (by decide) ?_
      obtain rfl := Option.some.inj h
      exact rt_i hF hr hk (bI_n false) (fun _ => 0) hW rfl dX2_stands_46
    · have h := ifp q6 h
      refine lv_iconst (v := 1) hx hb dX2_stands_41 (by decide) ?_
      refine lv_goto (tgt := 46) hx hb dX2_stands_42 (by decide) ?_
      obtain rfl := Option.some.inj h
      exact rt_i hF hr hk (bI_n true) (fun _ => 0) hW rfl dX2_stands_46
set_option maxRecDepth 100000 in
set_option maxHeartbeats 1000000 in
theorem c_X2_hasLetter (l : Launch) (K : Kx) (a d : Nat → Nat) {M : Mem} {x1 : Int32} {x2 : Int32} {r0 : Bool} (h : f_X2_hasLetter M x1 x2 = some r0) : CMi l yX2_hasLetter cX2_hasLetter 3 (some .boolean) ({ frames := 0, cells := 0, slots := 0, locals := 0 } : Room) K [.ref (a 5), .int x1, .int x2] (wC K a d M) (fun _ => wC K a d M) (bI r0) := by
  refine cs_i (by decide +kernel) (Nat.le_of_ble_eq_true rfl) ?_
  intro p e s m args below meth c A ls hF hr hk hnm hW hl
  have hx := hF.1
  have hb := hF.2.1
  have hl : lv_has ls 3 [(0, .ref (a 5)), (1, .int x1), (2, .int x2)] := hl
  obtain ⟨H, hH⟩ : ∃ z, z = s.heap := ⟨_, rfl⟩
  rw [← hH] at hW ⊢
  unfold f_X2_hasLetter at h
  refine lv_iload_n hx hb dX2_hasLetter_0 rfl (lv_at hl 2 rfl) ?_
  refine lv_aload_n hx hb dX2_hasLetter_1 rfl (lv_at hl 0 rfl) ?_
  refine g_X2_27 hF hW dX2_hasLetter_2 ?_
  refine lv_aload_n hx hb dX2_hasLetter_5 rfl (lv_at hl 0 rfl) ?_
  refine g_X2_46 hF hW dX2_hasLetter_6 ?_
  refine lv_iload_n hx hb dX2_hasLetter_9 rfl (lv_at hl 1 rfl) ?_
  obtain ⟨q1, h⟩ := ck_some h
  refine w_ild hF hW (pC_16 K a d _) q1 dX2_hasLetter_10 ?_
  obtain ⟨q2, h⟩ := ck_some h
  refine w_ild hF hW (pC_11 K a d _) q2 dX2_hasLetter_11 ?_
  refine lv_icmp_ge (tgt := 19) hx hb dX2_hasLetter_12 (by decide) (fun q3 => ?_) (fun q3 => ?_)
  · have h := ifp q3 h
    refine lv_iconst (v := 0) hx hb dX2_hasLetter_19 (by decide) ?_
    obtain rfl := Option.some.inj h
    exact rt_i hF hr hk (bI_n false) (fun _ => 0) hW rfl dX2_hasLetter_20
  · have h := ifn q3 h
    refine lv_iconst (v := 1) hx hb dX2_hasLetter_15 (by decide) ?_
    refine lv_goto (tgt := 20) hx hb dX2_hasLetter_16 (by decide) ?_
    obtain rfl := Option.some.inj h
    exact rt_i hF hr hk (bI_n true) (fun _ => 0) hW rfl dX2_hasLetter_20
set_option maxRecDepth 100000 in
set_option maxHeartbeats 1000000 in
theorem c_X2_firstActIn (l : Launch) (K : Kx) (a d : Nat → Nat) {M : Mem} {x1 : Int32} {r0 : Int32} (h : f_X2_firstActIn M x1 = some r0) : CMi l yX2_firstActIn cX2_firstActIn 3 (some .int) ({ frames := 1, cells := 0, slots := 0, locals := 24 } : Room) K [.ref (a 5), .int x1] (wC K a d M) (fun _ => wC K a d M) r0 := by
  refine cs_i (by decide +kernel) (Nat.le_of_ble_eq_true rfl) ?_
  intro p e s m args below meth c A ls hF hr hk hnm hW hl
  have hx := hF.1
  have hb := hF.2.1
  have hl : lv_has ls 3 [(0, .ref (a 5)), (1, .int x1)] := hl
  obtain ⟨H, hH⟩ : ∃ z, z = s.heap := ⟨_, rfl⟩
  rw [← hH] at hW ⊢
  have J2 : ∀ (n2 : Nat) (x1 : Int32) (x2 : Int32) (M : Mem) (H : Heap) (locs : List Loc) (ls : Array Slot), f_X2_firstActIn_2 n2 x1 x2 M = some r0 → Wd K A s (wC K a d M) H locs → lv_has ls 3 [(0, .ref (a 5)), (1, .int x1), (2, .int x2)] → W p l e ({ frames := 1, cells := 0, slots := 0, locals := 24 } : Room) s m args below meth c H locs 0 0 (EndI K A (fun _ => wC K a d M) r0 below args s ({ frames := 1, cells := 0, slots := 0, locals := 24 } : Room)) (F0 m 2 ls []) := by
    intro n2
    induction n2 with
    | zero => intro x1 x2 M H locs ls h; exact absurd h (by simp [f_X2_firstActIn_2])
    | succ n2 ih2 =>
      intro x1 x2 M H locs ls h hW hl
      rw [f_X2_firstActIn_2] at h
      refine lv_iload_n hx hb dX2_firstActIn_2 rfl (lv_at hl 2 rfl) ?_
      refine lv_aload_n hx hb dX2_firstActIn_3 rfl (lv_at hl 0 rfl) ?_
      refine g_X2_52 hF hW dX2_firstActIn_4 ?_
      refine lv_icmp_ge (tgt := 27) hx hb dX2_firstActIn_7 (by decide) (fun q1 => ?_) (fun q1 => ?_)
      · have h := ifp q1 h
        refine lv_bipush (v := (-9)) hx hb dX2_firstActIn_27 (by decide) ?_
        obtain rfl := Option.some.inj h
        exact rt_i hF hr hk rfl (fun _ => 0) hW rfl dX2_firstActIn_29
      · have h := ifn q1 h
        refine lv_aload_n hx hb dX2_firstActIn_10 rfl (lv_at hl 0 rfl) ?_
        refine lv_iload_n hx hb dX2_firstActIn_11 rfl (lv_at hl 2 rfl) ?_
        refine lv_iload_n hx hb dX2_firstActIn_12 rfl (lv_at hl 1 rfl) ?_
        obtain ⟨r2, hc4, h⟩ := bq_some h
        refine cV_i (ci := 2) (q0 := 5) (rest := []) hF hW mw_X2_91 (c_X2_stands l K a d hc4) ⟨Nat.le_of_ble_eq_true rfl, Nat.le_of_ble_eq_true rfl⟩ rfl rfl (pC_5 K a d _) rfl hl.1 rfl (Nat.le_of_ble_eq_true rfl) dX2_firstActIn_13 ⟨Nat.le_of_ble_eq_true rfl, Nat.le_of_ble_eq_true rfl⟩ (fun _ H locs hW => ?_)
        refine lz_eq (tgt := 21) hx hb dX2_firstActIn_16 (by decide) (fun q5 => ?_) (fun q5 => ?_)
        · have h := ifn q5 h
          refine lv_iinc (v := (x2 + 1)) (lv' := [(2, .int (x2 + 1)), (0, .ref (a 5)), (1, .int x1)]) hx hb dX2_firstActIn_21 hl (k := 2) rfl rfl (by decide) rfl (fun ls hl => ?_)
          refine lv_goto (tgt := 2) hx hb dX2_firstActIn_24 (by decide) ?_
          exact ih2 x1 (x2 + 1) _ _ _ _ h hW (lv_sub hl [1, 2, 0] rfl)
        · have h := ifp q5 h
          refine lv_iload_n hx hb dX2_firstActIn_19 rfl (lv_at hl 2 rfl) ?_
          obtain rfl := Option.some.inj h
          exact rt_i hF hr hk rfl (fun _ => 0) hW rfl dX2_firstActIn_20
  unfold f_X2_firstActIn at h
  refine lv_iconst (v := 0) hx hb dX2_firstActIn_0 (by decide) ?_
  refine lv_istore_n (lv' := [(2, .int 0), (0, .ref (a 5)), (1, .int x1)]) hx hb dX2_firstActIn_1 rfl hl (by decide) rfl (fun ls hl => ?_)
  exact J2 100000 x1 0 _ _ _ _ h hW (lv_sub hl [1, 2, 0] rfl)
set_option maxRecDepth 100000 in
set_option maxHeartbeats 1000000 in
theorem c_X2_pair (l : Launch) (K : Kx) (a d : Nat → Nat) {M : Mem} {x1 : Int32} {x2 : Int32} {r0 : Int32} (h : f_X2_pair M x1 x2 = some r0) : CMi l yX2_pair cX2_pair 3 (some .int) ({ frames := 0, cells := 0, slots := 0, locals := 0 } : Room) K [.ref (a 5), .int x1, .int x2] (wC K a d M) (fun _ => wC K a d M) r0 := by
  refine cs_i (by decide +kernel) (Nat.le_of_ble_eq_true rfl) ?_
  intro p e s m args below meth c A ls hF hr hk hnm hW hl
  have hx := hF.1
  have hb := hF.2.1
  have hl : lv_has ls 3 [(0, .ref (a 5)), (1, .int x1), (2, .int x2)] := hl
  obtain ⟨H, hH⟩ : ∃ z, z = s.heap := ⟨_, rfl⟩
  rw [← hH] at hW ⊢
  unfold f_X2_pair at h
  refine lv_aload_n hx hb dX2_pair_0 rfl (lv_at hl 0 rfl) ?_
  refine g_X2_49 hF hW dX2_pair_1 ?_
  refine lv_iload_n hx hb dX2_pair_4 rfl (lv_at hl 1 rfl) ?_
  obtain ⟨q1, h⟩ := ck_some h
  refine w_ild hF hW (pC_17 K a d _) q1 dX2_pair_5 ?_
  refine lv_bipush (v := 12) hx hb dX2_pair_6 (by decide) ?_
  refine lv_imul hx hb dX2_pair_8 ?_
  refine lv_aload_n hx hb dX2_pair_9 rfl (lv_at hl 0 rfl) ?_
  refine g_X2_49 hF hW dX2_pair_10 ?_
  refine lv_iload_n hx hb dX2_pair_13 rfl (lv_at hl 2 rfl) ?_
  obtain ⟨q2, h⟩ := ck_some h
  refine w_ild hF hW (pC_17 K a d _) q2 dX2_pair_14 ?_
  refine lv_iadd hx hb dX2_pair_15 ?_
  obtain rfl := Option.some.inj h
  exact rt_i hF hr hk rfl (fun _ => 0) hW rfl dX2_pair_16
set_option maxRecDepth 100000 in
set_option maxHeartbeats 1000000 in
theorem c_X2_common (l : Launch) (K : Kx) (a d : Nat → Nat) {M : Mem} {x1 : Int32} {x2 : Int32} {r0 : Int32} (h : f_X2_common M x1 x2 = some r0) : CMi l yX2_common cX2_common 5 (some .int) ({ frames := 1, cells := 0, slots := 0, locals := 21 } : Room) K [.ref (a 5), .int x1, .int x2] (wC K a d M) (fun _ => wC K a d M) r0 := by
  refine cs_i (by decide +kernel) (Nat.le_of_ble_eq_true rfl) ?_
  intro p e s m args below meth c A ls hF hr hk hnm hW hl
  have hx := hF.1
  have hb := hF.2.1
  have hl : lv_has ls 5 [(0, .ref (a 5)), (1, .int x1), (2, .int x2)] := hl
  obtain ⟨H, hH⟩ : ∃ z, z = s.heap := ⟨_, rfl⟩
  rw [← hH] at hW ⊢
  have J19 : ∀ (n19 : Nat) (x1 : Int32) (x2 : Int32) (x3 : Int32) (x4 : Int32) (M : Mem) (H : Heap) (locs : List Loc) (ls : Array Slot), f_X2_common_19 n19 x1 x2 x3 x4 M = some r0 → Wd K A s (wC K a d M) H locs → lv_has ls 5 [(0, .ref (a 5)), (1, .int x1), (2, .int x2), (3, .int x3), (4, .int x4)] → W p l e ({ frames := 1, cells := 0, slots := 0, locals := 21 } : Room) s m args below meth c H locs 0 0 (EndI K A (fun _ => wC K a d M) r0 below args s ({ frames := 1, cells := 0, slots := 0, locals := 21 } : Room)) (F0 m 19 ls []) := by
    intro n19
    induction n19 with
    | zero => intro x1 x2 x3 x4 M H locs ls h; exact absurd h (by simp [f_X2_common_19])
    | succ n19 ih19 =>
      intro x1 x2 x3 x4 M H locs ls h hW hl
      rw [f_X2_common_19] at h
      refine lv_iload hx hb dX2_common_19 (lv_at hl 4 rfl) ?_
      refine lv_iload_n hx hb dX2_common_21 rfl (lv_at hl 3 rfl) ?_
      refine lv_icmp_ge (tgt := 56) hx hb dX2_common_22 (by decide) (fun q6 => ?_) (fun q6 => ?_)
      · have h := ifp q6 h
        refine lv_iload hx hb dX2_common_56 (lv_at hl 4 rfl) ?_
        obtain rfl := Option.some.inj h
        exact rt_i hF hr hk rfl (fun _ => 0) hW rfl dX2_common_58
      · have h := ifn q6 h
        refine lv_aload_n hx hb dX2_common_25 rfl (lv_at hl 0 rfl) ?_
        refine g_X2_36 hF hW dX2_common_26 ?_
        refine lv_iload_n hx hb dX2_common_29 rfl (lv_at hl 1 rfl) ?_
        refine lv_iconst (v := 4) hx hb dX2_common_30 (by decide) ?_
        refine lv_imul hx hb dX2_common_31 ?_
        refine lv_iload hx hb dX2_common_32 (lv_at hl 4 rfl) ?_
        refine lv_iadd hx hb dX2_common_34 ?_
        obtain ⟨q7, h⟩ := ck_some h
        refine w_ild hF hW (pC_14 K a d _) q7 dX2_common_35 ?_
        refine lv_aload_n hx hb dX2_common_36 rfl (lv_at hl 0 rfl) ?_
        refine g_X2_36 hF hW dX2_common_37 ?_
        refine lv_iload_n hx hb dX2_common_40 rfl (lv_at hl 2 rfl) ?_
        refine lv_iconst (v := 4) hx hb dX2_common_41 (by decide) ?_
        refine lv_imul hx hb dX2_common_42 ?_
        refine lv_iload hx hb dX2_common_43 (lv_at hl 4 rfl) ?_
        refine lv_iadd hx hb dX2_common_45 ?_
        obtain ⟨q8, h⟩ := ck_some h
        refine w_ild hF hW (pC_14 K a d _) q8 dX2_common_46 ?_
        refine lv_icmp_ne (tgt := 56) hx hb dX2_common_47 (by decide) (fun q9 => ?_) (fun q9 => ?_)
        · have h := ifn q9 h
          refine lv_iload hx hb dX2_common_56 (lv_at hl 4 rfl) ?_
          obtain rfl := Option.some.inj h
          exact rt_i hF hr hk rfl (fun _ => 0) hW rfl dX2_common_58
        · have h := ifp q9 h
          refine lv_iinc (v := (x4 + 1)) (lv' := [(4, .int (x4 + 1)), (0, .ref (a 5)), (1, .int x1), (2, .int x2), (3, .int x3)]) hx hb dX2_common_50 hl (k := 4) rfl rfl (by decide) rfl (fun ls hl => ?_)
          refine lv_goto (tgt := 19) hx hb dX2_common_53 (by decide) ?_
          exact ih19 x1 x2 x3 (x4 + 1) _ _ _ _ h hW (lv_sub hl [1, 2, 3, 4, 0] rfl)
  unfold f_X2_common at h
  refine lv_aload_n hx hb dX2_common_0 rfl (lv_at hl 0 rfl) ?_
  refine g_X2_27 hF hW dX2_common_1 ?_
  refine lv_iload_n hx hb dX2_common_4 rfl (lv_at hl 1 rfl) ?_
  obtain ⟨q1, h⟩ := ck_some h
  refine w_ild hF hW (pC_11 K a d _) q1 dX2_common_5 ?_
  refine lv_aload_n hx hb dX2_common_6 rfl (lv_at hl 0 rfl) ?_
  refine g_X2_27 hF hW dX2_common_7 ?_
  refine lv_iload_n hx hb dX2_common_10 rfl (lv_at hl 2 rfl) ?_
  obtain ⟨q2, h⟩ := ck_some h
  refine w_ild hF hW (pC_11 K a d _) q2 dX2_common_11 ?_
  obtain ⟨r3, hc5, h⟩ := bq_some h
  refine cS_i (rest := []) hF hW mw_X2_95 (c_J9_min_7cf53 l K hc5) ⟨Nat.le_of_ble_eq_true rfl, Nat.le_of_ble_eq_true rfl⟩ rfl hl.1 rfl (Nat.le_of_ble_eq_true rfl) dX2_common_12 ⟨Nat.le_of_ble_eq_true rfl, Nat.le_of_ble_eq_true rfl⟩ (fun _ H locs hW => ?_)
  refine lv_istore_n (lv' := [(3, .int r3), (0, .ref (a 5)), (1, .int x1), (2, .int x2)]) hx hb dX2_common_15 rfl hl (by decide) rfl (fun ls hl => ?_)
  refine lv_iconst (v := 0) hx hb dX2_common_16 (by decide) ?_
  refine lv_istore (lv' := [(4, .int 0), (3, .int r3), (0, .ref (a 5)), (1, .int x1), (2, .int x2)]) hx hb dX2_common_17 hl (by decide) rfl (fun ls hl => ?_)
  exact J19 100000 x1 x2 r3 0 _ _ _ _ h hW (lv_sub hl [2, 3, 4, 1, 0] rfl)
set_option maxRecDepth 100000 in
set_option maxHeartbeats 1000000 in
theorem c_X3_reaches (l : Launch) (K : Kx) (a d : Nat → Nat) {M : Mem} {x1 : Int32} {x2 : Int32} {x3 : Int32} {r0 : Bool} (h : f_X3_reaches M x1 x2 x3 = some r0) : CMi l yX3_reaches cX3_reaches 4 (some .boolean) ({ frames := 1, cells := 0, slots := 0, locals := 24 } : Room) K [.ref (a 26), .int x1, .int x2, .int x3] (wC K a d M) (fun _ => wC K a d M) (bI r0) := by
  refine cs_i (by decide +kernel) (Nat.le_of_ble_eq_true rfl) ?_
  intro p e s m args below meth c A ls hF hr hk hnm hW hl
  have hx := hF.1
  have hb := hF.2.1
  have hl : lv_has ls 4 [(0, .ref (a 26)), (1, .int x1), (2, .int x2), (3, .int x3)] := hl
  obtain ⟨H, hH⟩ : ∃ z, z = s.heap := ⟨_, rfl⟩
  rw [← hH] at hW ⊢
  unfold f_X3_reaches at h
  refine lv_aload_n hx hb dX3_reaches_0 rfl (lv_at hl 0 rfl) ?_
  refine g_X3_32 hF hW dX3_reaches_1 ?_
  refine lv_iload_n hx hb dX3_reaches_4 rfl (lv_at hl 1 rfl) ?_
  refine lv_iload_n hx hb dX3_reaches_5 rfl (lv_at hl 2 rfl) ?_
  obtain ⟨r1, hc3, h⟩ := bq_some h
  refine cV_i (ci := 2) (q0 := 5) (rest := []) hF hW mw_X3_66 (c_X2_stands l K a d hc3) ⟨Nat.le_of_ble_eq_true rfl, Nat.le_of_ble_eq_true rfl⟩ rfl rfl (pC_5 K a d _) rfl hl.1 rfl (Nat.le_of_ble_eq_true rfl) dX3_reaches_6 ⟨Nat.le_of_ble_eq_true rfl, Nat.le_of_ble_eq_true rfl⟩ (fun _ H locs hW => ?_)
  refine lz_eq (tgt := 28) hx hb dX3_reaches_9 (by decide) (fun q4 => ?_) (fun q4 => ?_)
  · have h := ifn q4 h
    refine lv_iconst (v := 0) hx hb dX3_reaches_28 (by decide) ?_
    obtain rfl := Option.some.inj h
    exact rt_i hF hr hk (bI_n false) (fun _ => 0) hW rfl dX3_reaches_29
  · have h := ifp q4 h
    refine lv_aload_n hx hb dX3_reaches_12 rfl (lv_at hl 0 rfl) ?_
    refine g_X3_32 hF hW dX3_reaches_13 ?_
    refine lv_iload_n hx hb dX3_reaches_16 rfl (lv_at hl 1 rfl) ?_
    refine lv_iload_n hx hb dX3_reaches_17 rfl (lv_at hl 3 rfl) ?_
    obtain ⟨r5, hc7, h⟩ := bq_some h
    refine cV_i (ci := 2) (q0 := 5) (rest := []) hF hW mw_X3_70 (c_X2_hasLetter l K a d hc7) ⟨Nat.le_of_ble_eq_true rfl, Nat.le_of_ble_eq_true rfl⟩ rfl rfl (pC_5 K a d _) rfl hl.1 rfl (Nat.le_of_ble_eq_true rfl) dX3_reaches_18 ⟨Nat.le_of_ble_eq_true rfl, Nat.le_of_ble_eq_true rfl⟩ (fun _ H locs hW => ?_)
    refine lz_eq (tgt := 28) hx hb dX3_reaches_21 (by decide) (fun q8 => ?_) (fun q8 => ?_)
    · have h := ifn q8 h
      refine lv_iconst (v := 0) hx hb dX3_reaches_28 (by decide) ?_
      obtain rfl := Option.some.inj h
      exact rt_i hF hr hk (bI_n false) (fun _ => 0) hW rfl dX3_reaches_29
    · have h := ifp q8 h
      refine lv_iconst (v := 1) hx hb dX3_reaches_24 (by decide) ?_
      refine lv_goto (tgt := 29) hx hb dX3_reaches_25 (by decide) ?_
      obtain rfl := Option.some.inj h
      exact rt_i hF hr hk (bI_n true) (fun _ => 0) hW rfl dX3_reaches_29
set_option maxRecDepth 100000 in
set_option maxHeartbeats 1000000 in
theorem c_X3_parted (l : Launch) (K : Kx) (a d : Nat → Nat) {M : Mem} {x1 : Int32} {x2 : Int32} {x3 : Int32} {r0 : Int32} (h : f_X3_parted M x1 x2 x3 = some r0) : CMi l yX3_parted cX3_parted 4 (some .int) ({ frames := 1, cells := 0, slots := 0, locals := 22 } : Room) K [.ref (a 26), .int x1, .int x2, .int x3] (wC K a d M) (fun _ => wC K a d M) r0 := by
  refine cs_i (by decide +kernel) (Nat.le_of_ble_eq_true rfl) ?_
  intro p e s m args below meth c A ls hF hr hk hnm hW hl
  have hx := hF.1
  have hb := hF.2.1
  have hl : lv_has ls 4 [(0, .ref (a 26)), (1, .int x1), (2, .int x2), (3, .int x3)] := hl
  obtain ⟨H, hH⟩ : ∃ z, z = s.heap := ⟨_, rfl⟩
  rw [← hH] at hW ⊢
  unfold f_X3_parted at h
  refine lv_bipush (v := 100) hx hb dX3_parted_0 (by decide) ?_
  refine lv_aload_n hx hb dX3_parted_2 rfl (lv_at hl 0 rfl) ?_
  refine g_X3_12 hF hW dX3_parted_3 ?_
  refine g_X3_80_now hF hW dX3_parted_6 ?_
  refine lv_iload_n hx hb dX3_parted_9 rfl (lv_at hl 3 rfl) ?_
  obtain ⟨q1, h⟩ := ck_some h
  refine w_ild hF hW (pC_28 K a d _) q1 dX3_parted_10 ?_
  refine lv_imul hx hb dX3_parted_11 ?_
  refine lv_aload_n hx hb dX3_parted_12 rfl (lv_at hl 0 rfl) ?_
  refine g_X3_32 hF hW dX3_parted_13 ?_
  refine lv_iload_n hx hb dX3_parted_16 rfl (lv_at hl 1 rfl) ?_
  refine lv_iload_n hx hb dX3_parted_17 rfl (lv_at hl 2 rfl) ?_
  refine lv_iconst (v := 1) hx hb dX3_parted_18 (by decide) ?_
  refine lv_iadd hx hb dX3_parted_19 ?_
  obtain ⟨r2, hc4, h⟩ := bq_some h
  refine cV_i (ci := 2) (q0 := 5) (rest := [.int (100 * (M.1 28 x3.toNatClampNeg))]) hF hW mw_X3_51 (c_X2_placeOf l K a d hc4) ⟨Nat.le_of_ble_eq_true rfl, Nat.le_of_ble_eq_true rfl⟩ rfl rfl (pC_5 K a d _) rfl hl.1 rfl (Nat.le_of_ble_eq_true rfl) dX3_parted_20 ⟨Nat.le_of_ble_eq_true rfl, Nat.le_of_ble_eq_true rfl⟩ (fun _ H locs hW => ?_)
  refine lv_iadd hx hb dX3_parted_23 ?_
  obtain rfl := Option.some.inj h
  exact rt_i hF hr hk rfl (fun _ => 0) hW rfl dX3_parted_24
set_option maxRecDepth 100000 in
set_option maxHeartbeats 1000000 in
theorem c_X4_isEmpty (l : Launch) (K : Kx) (a d : Nat → Nat) {M : Mem} {x1 : Int32} {r0 : Bool} (h : f_X4_isEmpty M x1 = some r0) : CMi l yX4_isEmpty cX4_isEmpty 2 (some .boolean) ({ frames := 0, cells := 0, slots := 0, locals := 0 } : Room) K [.ref (a 21), .int x1] (wC K a d M) (fun _ => wC K a d M) (bI r0) := by
  refine cs_i (by decide +kernel) (Nat.le_of_ble_eq_true rfl) ?_
  intro p e s m args below meth c A ls hF hr hk hnm hW hl
  have hx := hF.1
  have hb := hF.2.1
  have hl : lv_has ls 2 [(0, .ref (a 21)), (1, .int x1)] := hl
  obtain ⟨H, hH⟩ : ∃ z, z = s.heap := ⟨_, rfl⟩
  rw [← hH] at hW ⊢
  unfold f_X4_isEmpty at h
  refine lv_aload_n hx hb dX4_isEmpty_0 rfl (lv_at hl 0 rfl) ?_
  refine g_X4_9 hF hW dX4_isEmpty_1 ?_
  refine lv_iload_n hx hb dX4_isEmpty_4 rfl (lv_at hl 1 rfl) ?_
  obtain ⟨q1, h⟩ := ck_some h
  refine w_ild hF hW (pC_22 K a d _) q1 dX4_isEmpty_5 ?_
  refine lv_if_ne (tgt := 13) hx hb dX4_isEmpty_6 (by decide) (fun q2 => ?_) (fun q2 => ?_)
  · have h := ifn q2 h
    refine lv_iconst (v := 0) hx hb dX4_isEmpty_13 (by decide) ?_
    obtain rfl := Option.some.inj h
    exact rt_i hF hr hk (bI_n false) (fun _ => 0) hW rfl dX4_isEmpty_14
  · have h := ifp q2 h
    refine lv_iconst (v := 1) hx hb dX4_isEmpty_9 (by decide) ?_
    refine lv_goto (tgt := 14) hx hb dX4_isEmpty_10 (by decide) ?_
    obtain rfl := Option.some.inj h
    exact rt_i hF hr hk (bI_n true) (fun _ => 0) hW rfl dX4_isEmpty_14
set_option maxRecDepth 100000 in
set_option maxHeartbeats 1000000 in
theorem c_X4_isNode (l : Launch) (K : Kx) (a d : Nat → Nat) {M : Mem} {x1 : Int32} {r0 : Bool} (h : f_X4_isNode M x1 = some r0) : CMi l yX4_isNode cX4_isNode 2 (some .boolean) ({ frames := 0, cells := 0, slots := 0, locals := 0 } : Room) K [.ref (a 21), .int x1] (wC K a d M) (fun _ => wC K a d M) (bI r0) := by
  refine cs_i (by decide +kernel) (Nat.le_of_ble_eq_true rfl) ?_
  intro p e s m args below meth c A ls hF hr hk hnm hW hl
  have hx := hF.1
  have hb := hF.2.1
  have hl : lv_has ls 2 [(0, .ref (a 21)), (1, .int x1)] := hl
  obtain ⟨H, hH⟩ : ∃ z, z = s.heap := ⟨_, rfl⟩
  rw [← hH] at hW ⊢
  unfold f_X4_isNode at h
  refine lv_aload_n hx hb dX4_isNode_0 rfl (lv_at hl 0 rfl) ?_
  refine g_X4_9 hF hW dX4_isNode_1 ?_
  refine lv_iload_n hx hb dX4_isNode_4 rfl (lv_at hl 1 rfl) ?_
  obtain ⟨q1, h⟩ := ck_some h
  refine w_ild hF hW (pC_22 K a d _) q1 dX4_isNode_5 ?_
  refine lv_iconst (v := 1) hx hb dX4_isNode_6 (by decide) ?_
  refine lv_icmp_ne (tgt := 14) hx hb dX4_isNode_7 (by decide) (fun q2 => ?_) (fun q2 => ?_)
  · have h := ifn q2 h
    refine lv_iconst (v := 0) hx hb dX4_isNode_14 (by decide) ?_
    obtain rfl := Option.some.inj h
    exact rt_i hF hr hk (bI_n false) (fun _ => 0) hW rfl dX4_isNode_15
  · have h := ifp q2 h
    refine lv_iconst (v := 1) hx hb dX4_isNode_10 (by decide) ?_
    refine lv_goto (tgt := 15) hx hb dX4_isNode_11 (by decide) ?_
    obtain rfl := Option.some.inj h
    exact rt_i hF hr hk (bI_n true) (fun _ => 0) hW rfl dX4_isNode_15
set_option maxRecDepth 100000 in
set_option maxHeartbeats 1000000 in
theorem c_X4_isNote (l : Launch) (K : Kx) (a d : Nat → Nat) {M : Mem} {x1 : Int32} {r0 : Bool} (h : f_X4_isNote M x1 = some r0) : CMi l yX4_isNote cX4_isNote 2 (some .boolean) ({ frames := 0, cells := 0, slots := 0, locals := 0 } : Room) K [.ref (a 21), .int x1] (wC K a d M) (fun _ => wC K a d M) (bI r0) := by
  refine cs_i (by decide +kernel) (Nat.le_of_ble_eq_true rfl) ?_
  intro p e s m args below meth c A ls hF hr hk hnm hW hl
  have hx := hF.1
  have hb := hF.2.1
  have hl : lv_has ls 2 [(0, .ref (a 21)), (1, .int x1)] := hl
  obtain ⟨H, hH⟩ : ∃ z, z = s.heap := ⟨_, rfl⟩
  rw [← hH] at hW ⊢
  unfold f_X4_isNote at h
  refine lv_aload_n hx hb dX4_isNote_0 rfl (lv_at hl 0 rfl) ?_
  refine g_X4_9 hF hW dX4_isNote_1 ?_
  refine lv_iload_n hx hb dX4_isNote_4 rfl (lv_at hl 1 rfl) ?_
  obtain ⟨q1, h⟩ := ck_some h
  refine w_ild hF hW (pC_22 K a d _) q1 dX4_isNote_5 ?_
  refine lv_iconst (v := 2) hx hb dX4_isNote_6 (by decide) ?_
  refine lv_icmp_ne (tgt := 14) hx hb dX4_isNote_7 (by decide) (fun q2 => ?_) (fun q2 => ?_)
  · have h := ifn q2 h
    refine lv_iconst (v := 0) hx hb dX4_isNote_14 (by decide) ?_
    obtain rfl := Option.some.inj h
    exact rt_i hF hr hk (bI_n false) (fun _ => 0) hW rfl dX4_isNote_15
  · have h := ifp q2 h
    refine lv_iconst (v := 1) hx hb dX4_isNote_10 (by decide) ?_
    refine lv_goto (tgt := 15) hx hb dX4_isNote_11 (by decide) ?_
    obtain rfl := Option.some.inj h
    exact rt_i hF hr hk (bI_n true) (fun _ => 0) hW rfl dX4_isNote_15
set_option maxRecDepth 100000 in
set_option maxHeartbeats 1000000 in
theorem c_X4_empty (l : Launch) (K : Kx) (a d : Nat → Nat) {M M0 : Mem} {x1 : Int32}  (h : f_X4_empty M x1 = some M0) : CMv l yX4_empty cX4_empty 2 ({ frames := 0, cells := 0, slots := 0, locals := 0 } : Room) K [.ref (a 21), .int x1] (wC K a d M) (fun _ => wC K a d M0) := by
  refine cs_v (by decide +kernel) (Nat.le_of_ble_eq_true rfl) ?_
  intro p e s m args below meth c A ls hF hr hk hnm hW hl
  have hx := hF.1
  have hb := hF.2.1
  have hl : lv_has ls 2 [(0, .ref (a 21)), (1, .int x1)] := hl
  obtain ⟨H, hH⟩ : ∃ z, z = s.heap := ⟨_, rfl⟩
  rw [← hH] at hW ⊢
  unfold f_X4_empty at h
  refine lv_aload_n hx hb dX4_empty_0 rfl (lv_at hl 0 rfl) ?_
  refine g_X4_9 hF hW dX4_empty_1 ?_
  refine lv_iload_n hx hb dX4_empty_4 rfl (lv_at hl 1 rfl) ?_
  refine lv_iconst (v := 0) hx hb dX4_empty_5 (by decide) ?_
  obtain ⟨q1, h⟩ := ck_some h
  refine w_ist hF hW (pC_22 K a d _) q1 (uC_22 K a d _ _ _) dX4_empty_6 (fun H locs hW => ?_)
  obtain rfl := Option.some.inj h
  exact rt_v hF hr hk (fun _ => 0) hW dX4_empty_7
set_option maxRecDepth 100000 in
set_option maxHeartbeats 1000000 in
theorem c_X4_putNode (l : Launch) (K : Kx) (a d : Nat → Nat) {M M0 : Mem} {x1 : Int32} {x2 : Int32}  (h : f_X4_putNode M x1 x2 = some M0) : CMv l yX4_putNode cX4_putNode 3 ({ frames := 0, cells := 0, slots := 0, locals := 0 } : Room) K [.ref (a 21), .int x1, .int x2] (wC K a d M) (fun _ => wC K a d M0) := by
  refine cs_v (by decide +kernel) (Nat.le_of_ble_eq_true rfl) ?_
  intro p e s m args below meth c A ls hF hr hk hnm hW hl
  have hx := hF.1
  have hb := hF.2.1
  have hl : lv_has ls 3 [(0, .ref (a 21)), (1, .int x1), (2, .int x2)] := hl
  obtain ⟨H, hH⟩ : ∃ z, z = s.heap := ⟨_, rfl⟩
  rw [← hH] at hW ⊢
  unfold f_X4_putNode at h
  refine lv_aload_n hx hb dX4_putNode_0 rfl (lv_at hl 0 rfl) ?_
  refine g_X4_9 hF hW dX4_putNode_1 ?_
  refine lv_iload_n hx hb dX4_putNode_4 rfl (lv_at hl 1 rfl) ?_
  refine lv_iconst (v := 1) hx hb dX4_putNode_5 (by decide) ?_
  obtain ⟨q1, h⟩ := ck_some h
  refine w_ist hF hW (pC_22 K a d _) q1 (uC_22 K a d _ _ _) dX4_putNode_6 (fun H locs hW => ?_)
  refine lv_aload_n hx hb dX4_putNode_7 rfl (lv_at hl 0 rfl) ?_
  refine g_X4_15 hF hW dX4_putNode_8 ?_
  refine lv_iload_n hx hb dX4_putNode_11 rfl (lv_at hl 1 rfl) ?_
  refine lv_iload_n hx hb dX4_putNode_12 rfl (lv_at hl 2 rfl) ?_
  obtain ⟨q2, h⟩ := ck_some h
  refine w_ist hF hW (pC_23 K a d _) q2 (uC_23 K a d _ _ _) dX4_putNode_13 (fun H locs hW => ?_)
  obtain rfl := Option.some.inj h
  exact rt_v hF hr hk (fun _ => 0) hW dX4_putNode_14
set_option maxRecDepth 100000 in
set_option maxHeartbeats 1000000 in
theorem c_X4_putNote (l : Launch) (K : Kx) (a d : Nat → Nat) {M M0 : Mem} {x1 : Int32} {x2 : Int32}  (h : f_X4_putNote M x1 x2 = some M0) : CMv l yX4_putNote cX4_putNote 3 ({ frames := 2, cells := 0, slots := 0, locals := 64 } : Room) K [.ref (a 21), .int x1, .int x2] (wC K a d M) (fun _ => wC K a d M0) := by
  refine cs_v (by decide +kernel) (Nat.le_of_ble_eq_true rfl) ?_
  intro p e s m args below meth c A ls hF hr hk hnm hW hl
  have hx := hF.1
  have hb := hF.2.1
  have hl : lv_has ls 3 [(0, .ref (a 21)), (1, .int x1), (2, .int x2)] := hl
  obtain ⟨H, hH⟩ : ∃ z, z = s.heap := ⟨_, rfl⟩
  rw [← hH] at hW ⊢
  unfold f_X4_putNote at h
  refine lv_aload_n hx hb dX4_putNote_0 rfl (lv_at hl 0 rfl) ?_
  refine g_X4_9 hF hW dX4_putNote_1 ?_
  refine lv_iload_n hx hb dX4_putNote_4 rfl (lv_at hl 1 rfl) ?_
  refine lv_iconst (v := 2) hx hb dX4_putNote_5 (by decide) ?_
  obtain ⟨q1, h⟩ := ck_some h
  refine w_ist hF hW (pC_22 K a d _) q1 (uC_22 K a d _ _ _) dX4_putNote_6 (fun H locs hW => ?_)
  refine lv_aload_n hx hb dX4_putNote_7 rfl (lv_at hl 0 rfl) ?_
  refine g_X4_15 hF hW dX4_putNote_8 ?_
  refine lv_iload_n hx hb dX4_putNote_11 rfl (lv_at hl 1 rfl) ?_
  refine lv_iload_n hx hb dX4_putNote_12 rfl (lv_at hl 2 rfl) ?_
  obtain ⟨q2, h⟩ := ck_some h
  refine w_ist hF hW (pC_23 K a d _) q2 (uC_23 K a d _ _ _) dX4_putNote_13 (fun H locs hW => ?_)
  refine lv_aload_n hx hb dX4_putNote_14 rfl (lv_at hl 0 rfl) ?_
  refine g_X4_18 hF hW dX4_putNote_15 ?_
  refine lv_iload_n hx hb dX4_putNote_18 rfl (lv_at hl 1 rfl) ?_
  refine lv_bipush (v := 12) hx hb dX4_putNote_19 (by decide) ?_
  refine lv_imul hx hb dX4_putNote_21 ?_
  refine lv_iload_n hx hb dX4_putNote_22 rfl (lv_at hl 1 rfl) ?_
  refine lv_bipush (v := 12) hx hb dX4_putNote_23 (by decide) ?_
  refine lv_imul hx hb dX4_putNote_25 ?_
  refine lv_iload_n hx hb dX4_putNote_26 rfl (lv_at hl 2 rfl) ?_
  refine lv_iadd hx hb dX4_putNote_27 ?_
  refine lv_iconst (v := 0) hx hb dX4_putNote_28 (by decide) ?_
  obtain ⟨q3, h⟩ := cf_some h
  refine cS_v (rest := []) hF hW mw_X4_22 (c_fillB_r l K (pC_24 K a d _) q3 (by decide)) ⟨Nat.le_of_ble_eq_true rfl, Nat.le_of_ble_eq_true rfl⟩ rfl hl.1 rfl (Nat.le_of_ble_eq_true rfl) dX4_putNote_29 ⟨Nat.le_of_ble_eq_true rfl, Nat.le_of_ble_eq_true rfl⟩ (fun _ H locs hW => ?_)
  have hW : Wd K A s (wC K a d (fI (sI (sI M 22 x1.toNatClampNeg 2) 23 x1.toNatClampNeg x2) 24 (x1 * 12).toNatClampNeg ((x1 * 12) + x2).toNatClampNeg (vp_nar .byte 0))) H locs := hW
  obtain rfl := Option.some.inj h
  exact rt_v hF hr hk (fun _ => 0) hW dX4_putNote_32
set_option maxRecDepth 100000 in
set_option maxHeartbeats 1000000 in
theorem c_X4_change (l : Launch) (K : Kx) (a d : Nat → Nat) {M M0 : Mem} {x1 : Int32} {x2 : Int32} {x3 : Int32} {r0 : Int32} (h : f_X4_change M x1 x2 x3 = some (r0, M0)) : CMi l yX4_change cX4_change 5 (some .int) ({ frames := 0, cells := 0, slots := 0, locals := 0 } : Room) K [.ref (a 21), .int x1, .int x2, .int x3] (wC K a d M) (fun _ => wC K a d M0) r0 := by
  refine cs_i (by decide +kernel) (Nat.le_of_ble_eq_true rfl) ?_
  intro p e s m args below meth c A ls hF hr hk hnm hW hl
  have hx := hF.1
  have hb := hF.2.1
  have hl : lv_has ls 5 [(0, .ref (a 21)), (1, .int x1), (2, .int x2), (3, .int x3)] := hl
  obtain ⟨H, hH⟩ : ∃ z, z = s.heap := ⟨_, rfl⟩
  rw [← hH] at hW ⊢
  unfold f_X4_change at h
  refine lv_aload_n hx hb dX4_change_0 rfl (lv_at hl 0 rfl) ?_
  refine g_X4_18 hF hW dX4_change_1 ?_
  refine lv_iload_n hx hb dX4_change_4 rfl (lv_at hl 1 rfl) ?_
  refine lv_bipush (v := 12) hx hb dX4_change_5 (by decide) ?_
  refine lv_imul hx hb dX4_change_7 ?_
  refine lv_iload_n hx hb dX4_change_8 rfl (lv_at hl 2 rfl) ?_
  refine lv_iadd hx hb dX4_change_9 ?_
  obtain ⟨q1, h⟩ := ck_some h
  refine w_bld hF hW (pC_24 K a d _) q1 dX4_change_10 ?_
  refine lv_istore (lv' := [(4, .int (M.1 24 ((x1 * 12) + x2).toNatClampNeg)), (0, .ref (a 21)), (1, .int x1), (2, .int x2), (3, .int x3)]) hx hb dX4_change_11 hl (by decide) rfl (fun ls hl => ?_)
  refine lv_aload_n hx hb dX4_change_13 rfl (lv_at hl 1 rfl) ?_
  refine g_X4_18 hF hW dX4_change_14 ?_
  refine lv_iload_n hx hb dX4_change_17 rfl (lv_at hl 2 rfl) ?_
  refine lv_bipush (v := 12) hx hb dX4_change_18 (by decide) ?_
  refine lv_imul hx hb dX4_change_20 ?_
  refine lv_iload_n hx hb dX4_change_21 rfl (lv_at hl 3 rfl) ?_
  refine lv_iadd hx hb dX4_change_22 ?_
  refine lv_iload_n hx hb dX4_change_23 rfl (lv_at hl 4 rfl) ?_
  refine lv_i2b hx hb dX4_change_24 rfl ?_
  obtain ⟨q2, h⟩ := ck_some h
  refine w_bst hF hW (pC_24 K a d _) q2 (uC_24 K a d _ _ _) dX4_change_25 (fun H locs hW => ?_)
  refine lv_iload hx hb dX4_change_26 (lv_at hl 0 rfl) ?_
  obtain ⟨rfl, rfl⟩ := Prod.mk.inj (Option.some.inj h)
  exact rt_i hF hr hk rfl (fun _ => 0) hW rfl dX4_change_28
set_option maxRecDepth 100000 in
set_option maxHeartbeats 1000000 in
theorem c_X4_spans (l : Launch) (K : Kx) (a d : Nat → Nat) {M : Mem} {x1 : Int32} {x2 : Int32} {x3 : Int32} {r0 : Bool} (h : f_X4_spans M x1 x2 x3 = some r0) : CMi l yX4_spans cX4_spans 4 (some .boolean) ({ frames := 0, cells := 0, slots := 0, locals := 0 } : Room) K [.ref (a 21), .int x1, .int x2, .int x3] (wC K a d M) (fun _ => wC K a d M) (bI r0) := by
  refine cs_i (by decide +kernel) (Nat.le_of_ble_eq_true rfl) ?_
  intro p e s m args below meth c A ls hF hr hk hnm hW hl
  have hx := hF.1
  have hb := hF.2.1
  have hl : lv_has ls 4 [(0, .ref (a 21)), (1, .int x1), (2, .int x2), (3, .int x3)] := hl
  obtain ⟨H, hH⟩ : ∃ z, z = s.heap := ⟨_, rfl⟩
  rw [← hH] at hW ⊢
  unfold f_X4_spans at h
  refine lv_iload_n hx hb dX4_spans_0 rfl (lv_at hl 2 rfl) ?_
  refine lv_if_lt (tgt := 28) hx hb dX4_spans_1 (by decide) (fun q1 => ?_) (fun q1 => ?_)
  · have h := ifp q1 h
    refine lv_iconst (v := 0) hx hb dX4_spans_28 (by decide) ?_
    obtain rfl := Option.some.inj h
    exact rt_i hF hr hk (bI_n false) (fun _ => 0) hW rfl dX4_spans_29
  · have h := ifn q1 h
    refine lv_iload_n hx hb dX4_spans_4 rfl (lv_at hl 3 rfl) ?_
    refine lv_if_lt (tgt := 28) hx hb dX4_spans_5 (by decide) (fun q2 => ?_) (fun q2 => ?_)
    · have h := ifp q2 h
      refine lv_iconst (v := 0) hx hb dX4_spans_28 (by decide) ?_
      obtain rfl := Option.some.inj h
      exact rt_i hF hr hk (bI_n false) (fun _ => 0) hW rfl dX4_spans_29
    · have h := ifn q2 h
      refine lv_iload_n hx hb dX4_spans_8 rfl (lv_at hl 2 rfl) ?_
      refine lv_i2l hx hb dX4_spans_9 rfl ?_
      refine lv_iload_n hx hb dX4_spans_10 rfl (lv_at hl 3 rfl) ?_
      refine lv_i2l hx hb dX4_spans_11 rfl ?_
      refine lv_ladd hx hb dX4_spans_12 ?_
      refine lv_aload_n hx hb dX4_spans_13 rfl (lv_at hl 0 rfl) ?_
      refine g_X4_15 hF hW dX4_spans_14 ?_
      refine lv_iload_n hx hb dX4_spans_17 rfl (lv_at hl 1 rfl) ?_
      obtain ⟨q3, h⟩ := ck_some h
      refine w_ild hF hW (pC_23 K a d _) q3 dX4_spans_18 ?_
      refine lv_i2l hx hb dX4_spans_19 rfl ?_
      refine ll_gt (tgt := 28) hx hb dX4_spans_20 dX4_spans_21 (by decide) (fun q4 => ?_) (fun q4 => ?_)
      · have h := ifp q4 h
        refine lv_iconst (v := 0) hx hb dX4_spans_28 (by decide) ?_
        obtain rfl := Option.some.inj h
        exact rt_i hF hr hk (bI_n false) (fun _ => 0) hW rfl dX4_spans_29
      · have h := ifn q4 h
        refine lv_iconst (v := 1) hx hb dX4_spans_24 (by decide) ?_
        refine lv_goto (tgt := 29) hx hb dX4_spans_25 (by decide) ?_
        obtain rfl := Option.some.inj h
        exact rt_i hF hr hk (bI_n true) (fun _ => 0) hW rfl dX4_spans_29
set_option maxRecDepth 100000 in
set_option maxHeartbeats 1000000 in
theorem c_X4_move (l : Launch) (K : Kx) (a d : Nat → Nat) {M M0 : Mem} {x1 : Int32} {x2 : Int32} {x3 : Int32} {x4 : Int32} {x5 : Int32}  (h : f_X4_move M x1 x2 x3 x4 x5 = some M0) : CMv l yX4_move cX4_move 6 ({ frames := 1, cells := 0, slots := 0, locals := 60 } : Room) K [.ref (a 21), .int x1, .int x2, .int x3, .int x4, .int x5] (wC K a d M) (fun _ => wC K a d M0) := by
  refine cs_v (by decide +kernel) (Nat.le_of_ble_eq_true rfl) ?_
  intro p e s m args below meth c A ls hF hr hk hnm hW hl
  have hx := hF.1
  have hb := hF.2.1
  have hl : lv_has ls 6 [(0, .ref (a 21)), (1, .int x1), (2, .int x2), (3, .int x3), (4, .int x4), (5, .int x5)] := hl
  obtain ⟨H, hH⟩ : ∃ z, z = s.heap := ⟨_, rfl⟩
  rw [← hH] at hW ⊢
  unfold f_X4_move at h
  refine lv_aload_n hx hb dX4_move_0 rfl (lv_at hl 0 rfl) ?_
  refine g_X4_18 hF hW dX4_move_1 ?_
  refine lv_iload_n hx hb dX4_move_4 rfl (lv_at hl 1 rfl) ?_
  refine lv_bipush (v := 12) hx hb dX4_move_5 (by decide) ?_
  refine lv_imul hx hb dX4_move_7 ?_
  refine lv_iload_n hx hb dX4_move_8 rfl (lv_at hl 2 rfl) ?_
  refine lv_iadd hx hb dX4_move_9 ?_
  refine lv_aload_n hx hb dX4_move_10 rfl (lv_at hl 0 rfl) ?_
  refine g_X4_18 hF hW dX4_move_11 ?_
  refine lv_iload_n hx hb dX4_move_14 rfl (lv_at hl 3 rfl) ?_
  refine lv_bipush (v := 12) hx hb dX4_move_15 (by decide) ?_
  refine lv_imul hx hb dX4_move_17 ?_
  refine lv_iload hx hb dX4_move_18 (lv_at hl 4 rfl) ?_
  refine lv_iadd hx hb dX4_move_20 ?_
  refine lv_iload hx hb dX4_move_21 (lv_at hl 5 rfl) ?_
  obtain ⟨q1, h⟩ := ca_some h
  obtain ⟨q2, h⟩ := cB_some h
  refine w_cpyb (rest := []) hF hW al_X4_28 ac_n ac_s ac_i (pC_24 K a d _) (pC_24 K a d _) q1 q2 (vC_24 K a d _ _) hl.1 (Nat.le_of_ble_eq_true rfl) (Nat.le_of_ble_eq_true rfl) dX4_move_23 (fun H locs hW => ?_)
  obtain rfl := Option.some.inj h
  exact rt_v hF hr hk (fun _ => 0) hW dX4_move_26
set_option maxRecDepth 100000 in
set_option maxHeartbeats 1000000 in
theorem c_X6_clear (l : Launch) (K : Kx) (a d : Nat → Nat) {M M0 : Mem} {x1 : Int32}  (h : f_X6_clear M x1 = some M0) : CMv l yX6_clear cX6_clear 2 ({ frames := 1, cells := 0, slots := 0, locals := 21 } : Room) K [.ref (a 63), .int x1] (wC K a d M) (fun _ => wC K a d M0) := by
  refine cs_v (by decide +kernel) (Nat.le_of_ble_eq_true rfl) ?_
  intro p e s m args below meth c A ls hF hr hk hnm hW hl
  have hx := hF.1
  have hb := hF.2.1
  have hl : lv_has ls 2 [(0, .ref (a 63)), (1, .int x1)] := hl
  obtain ⟨H, hH⟩ : ∃ z, z = s.heap := ⟨_, rfl⟩
  rw [← hH] at hW ⊢
  unfold f_X6_clear at h
  refine lv_aload_n hx hb dX6_clear_0 rfl (lv_at hl 0 rfl) ?_
  refine lv_iload_n hx hb dX6_clear_1 rfl (lv_at hl 1 rfl) ?_
  refine lv_bipush (v := 16) hx hb dX6_clear_2 (by decide) ?_
  obtain ⟨r1, hc3, h⟩ := bq_some h
  refine cS_i (rest := [.ref (a 63)]) hF hW mw_X6_29 (c_J9_min_7cf53 l K hc3) ⟨Nat.le_of_ble_eq_true rfl, Nat.le_of_ble_eq_true rfl⟩ rfl hl.1 rfl (Nat.le_of_ble_eq_true rfl) dX6_clear_4 ⟨Nat.le_of_ble_eq_true rfl, Nat.le_of_ble_eq_true rfl⟩ (fun _ H locs hW => ?_)
  refine s_X6_22 (x := r1) hF hW dX6_clear_7 (fun H locs hW => ?_)
  refine lv_aload_n hx hb dX6_clear_10 rfl (lv_at hl 0 rfl) ?_
  refine lv_iconst (v := 0) hx hb dX6_clear_11 (by decide) ?_
  refine s_X6_26 (x := 0) hF hW dX6_clear_12 (fun H locs hW => ?_)
  obtain rfl := Option.some.inj h
  exact rt_v hF hr hk (fun _ => 0) hW dX6_clear_15
set_option maxRecDepth 100000 in
set_option maxHeartbeats 1000000 in
theorem c_X6_bring (l : Launch) (K : Kx) (a d : Nat → Nat) {M M0 : Mem} {x1 : Int32} {x2 : Int64} {x4 : Int64} {r0 : Bool} (h : f_X6_bring M x1 x2 x4 = some (r0, M0)) : CMi l yX6_bring cX6_bring 9 (some .boolean) ({ frames := 1, cells := 0, slots := 0, locals := 21 } : Room) K [.ref (a 63), .int x1, .long x2, .long x4] (wC K a d M) (fun _ => wC K a d M0) (bI r0) := by
  refine cs_i (by decide +kernel) (Nat.le_of_ble_eq_true rfl) ?_
  intro p e s m args below meth c A ls hF hr hk hnm hW hl
  have hx := hF.1
  have hb := hF.2.1
  have hl : lv_has ls 9 [(0, .ref (a 63)), (1, .int x1), (2, .long x2), (4, .long x4)] := hl
  obtain ⟨H, hH⟩ : ∃ z, z = s.heap := ⟨_, rfl⟩
  rw [← hH] at hW ⊢
  have J3 : ∀ (n3 : Nat) (x1 : Int32) (x2 : Int64) (x4 : Int64) (x6 : Int32) (M : Mem) (H : Heap) (locs : List Loc) (ls : Array Slot), f_X6_bring_3 n3 x1 x2 x4 x6 M = some (r0, M0) → Wd K A s (wC K a d M) H locs → lv_has ls 9 [(0, .ref (a 63)), (1, .int x1), (2, .long x2), (4, .long x4), (6, .int x6)] → W p l e ({ frames := 1, cells := 0, slots := 0, locals := 21 } : Room) s m args below meth c H locs 0 0 (EndI K A (fun _ => wC K a d M0) (bI r0) below args s ({ frames := 1, cells := 0, slots := 0, locals := 21 } : Room)) (F0 m 3 ls []) := by
    intro n3
    induction n3 with
    | zero => intro x1 x2 x4 x6 M H locs ls h; exact absurd h (by simp [f_X6_bring_3])
    | succ n3 ih3 =>
      have J54 : ∀ (x1 : Int32) (x2 : Int64) (x4 : Int64) (x6 : Int32) (M : Mem) (H : Heap) (locs : List Loc) (ls : Array Slot), f_X6_bring_54 x1 x2 x4 x6 M = some (r0, M0) → Wd K A s (wC K a d M) H locs → lv_has ls 9 [(0, .ref (a 63)), (1, .int x1), (2, .long x2), (4, .long x4), (6, .int x6)] → W p l e ({ frames := 1, cells := 0, slots := 0, locals := 21 } : Room) s m args below meth c H locs 0 0 (EndI K A (fun _ => wC K a d M0) (bI r0) below args s ({ frames := 1, cells := 0, slots := 0, locals := 21 } : Room)) (F0 m 54 ls []) := by
        have J68 : ∀ (x1 : Int32) (x2 : Int64) (x4 : Int64) (x6 : Int32) (s0 : Bool) (M : Mem) (H : Heap) (locs : List Loc) (ls : Array Slot), f_X6_bring_68 x1 x2 x4 x6 s0 M = some (r0, M0) → Wd K A s (wC K a d M) H locs → lv_has ls 9 [(0, .ref (a 63)), (1, .int x1), (2, .long x2), (4, .long x4), (6, .int x6)] → W p l e ({ frames := 1, cells := 0, slots := 0, locals := 21 } : Room) s m args below meth c H locs 0 0 (EndI K A (fun _ => wC K a d M0) (bI r0) below args s ({ frames := 1, cells := 0, slots := 0, locals := 21 } : Room)) (F0 m 68 ls [.int (bI s0)]) := by
          have J96 : ∀ (x1 : Int32) (x2 : Int64) (x4 : Int64) (x6 : Int32) (x7 : Bool) (M : Mem) (H : Heap) (locs : List Loc) (ls : Array Slot), f_X6_bring_96 x1 x2 x4 x6 x7 M = some (r0, M0) → Wd K A s (wC K a d M) H locs → lv_has ls 9 [(0, .ref (a 63)), (1, .int x1), (2, .long x2), (4, .long x4), (6, .int x6), (7, .int (bI x7))] → W p l e ({ frames := 1, cells := 0, slots := 0, locals := 21 } : Room) s m args below meth c H locs 0 0 (EndI K A (fun _ => wC K a d M0) (bI r0) below args s ({ frames := 1, cells := 0, slots := 0, locals := 21 } : Room)) (F0 m 96 ls []) := by
            have J109 : ∀ (n109 : Nat) (x1 : Int32) (x2 : Int64) (x4 : Int64) (x7 : Bool) (x8 : Int32) (M : Mem) (H : Heap) (locs : List Loc) (ls : Array Slot), f_X6_bring_109 n109 x1 x2 x4 x7 x8 M = some (r0, M0) → Wd K A s (wC K a d M) H locs → lv_has ls 9 [(0, .ref (a 63)), (1, .int x1), (2, .long x2), (4, .long x4), (7, .int (bI x7)), (8, .int x8)] → W p l e ({ frames := 1, cells := 0, slots := 0, locals := 21 } : Room) s m args below meth c H locs 0 0 (EndI K A (fun _ => wC K a d M0) (bI r0) below args s ({ frames := 1, cells := 0, slots := 0, locals := 21 } : Room)) (F0 m 109 ls []) := by
              intro n109
              induction n109 with
              | zero => intro x1 x2 x4 x7 x8 M H locs ls h; exact absurd h (by simp [f_X6_bring_109])
              | succ n109 ih109 =>
                intro x1 x2 x4 x7 x8 M H locs ls h hW hl
                rw [f_X6_bring_109] at h
                refine lv_iload hx hb dX6_bring_109 (lv_at hl 5 rfl) ?_
                refine lv_if_le (tgt := 168) hx hb dX6_bring_111 (by decide) (fun q14 => ?_) (fun q14 => ?_)
                · have h := ifp q14 h
                  refine lv_aload_n hx hb dX6_bring_168 rfl (lv_at hl 0 rfl) ?_
                  refine g_X6_9 hF hW dX6_bring_169 ?_
                  refine lv_iconst (v := 0) hx hb dX6_bring_172 (by decide) ?_
                  refine lv_iload_n hx hb dX6_bring_173 rfl (lv_at hl 1 rfl) ?_
                  obtain ⟨q15, h⟩ := ck_some h
                  refine w_ist hF hW (pC_64 K a d _) q15 (uC_64 K a d _ _ _) dX6_bring_174 (fun H locs hW => ?_)
                  refine lv_aload_n hx hb dX6_bring_175 rfl (lv_at hl 0 rfl) ?_
                  refine g_X6_15 hF hW dX6_bring_176 ?_
                  refine lv_iconst (v := 0) hx hb dX6_bring_179 (by decide) ?_
                  refine lv_lload_n hx hb dX6_bring_180 rfl (lv_at hl 2 rfl) ?_
                  obtain ⟨q16, h⟩ := ck_some h
                  refine w_lst hF hW (pC_65 K a d _) q16 (uC_65 K a d _ _ _) dX6_bring_181 (fun H locs hW => ?_)
                  refine lv_aload_n hx hb dX6_bring_182 rfl (lv_at hl 0 rfl) ?_
                  refine g_X6_19 hF hW dX6_bring_183 ?_
                  refine lv_iconst (v := 0) hx hb dX6_bring_186 (by decide) ?_
                  refine lv_lload hx hb dX6_bring_187 (lv_at hl 3 rfl) ?_
                  obtain ⟨q17, h⟩ := ck_some h
                  refine w_lst hF hW (pC_66 K a d _) q17 (uC_66 K a d _ _ _) dX6_bring_189 (fun H locs hW => ?_)
                  refine lv_iload hx hb dX6_bring_190 (lv_at hl 4 rfl) ?_
                  obtain ⟨rfl, rfl⟩ := Prod.mk.inj (Option.some.inj h)
                  exact rt_i hF hr hk (bI_n _) (fun _ => 0) hW rfl dX6_bring_192
                · have h := ifn q14 h
                  refine lv_aload_n hx hb dX6_bring_114 rfl (lv_at hl 0 rfl) ?_
                  refine g_X6_9 hF hW dX6_bring_115 ?_
                  refine lv_iload hx hb dX6_bring_118 (lv_at hl 5 rfl) ?_
                  refine lv_aload_n hx hb dX6_bring_120 rfl (lv_at hl 0 rfl) ?_
                  refine g_X6_9 hF hW dX6_bring_121 ?_
                  refine lv_iload hx hb dX6_bring_124 (lv_at hl 5 rfl) ?_
                  refine lv_iconst (v := 1) hx hb dX6_bring_126 (by decide) ?_
                  refine lv_isub hx hb dX6_bring_127 ?_
                  obtain ⟨q18, h⟩ := ck_some h
                  refine w_ild hF hW (pC_64 K a d _) q18 dX6_bring_128 ?_
                  obtain ⟨q19, h⟩ := ck_some h
                  refine w_ist hF hW (pC_64 K a d _) q19 (uC_64 K a d _ _ _) dX6_bring_129 (fun H locs hW => ?_)
                  refine lv_aload_n hx hb dX6_bring_130 rfl (lv_at hl 0 rfl) ?_
                  refine g_X6_15 hF hW dX6_bring_131 ?_
                  refine lv_iload hx hb dX6_bring_134 (lv_at hl 5 rfl) ?_
                  refine lv_aload_n hx hb dX6_bring_136 rfl (lv_at hl 0 rfl) ?_
                  refine g_X6_15 hF hW dX6_bring_137 ?_
                  refine lv_iload hx hb dX6_bring_140 (lv_at hl 5 rfl) ?_
                  refine lv_iconst (v := 1) hx hb dX6_bring_142 (by decide) ?_
                  refine lv_isub hx hb dX6_bring_143 ?_
                  obtain ⟨q20, h⟩ := ck_some h
                  refine w_lld hF hW (pC_65 K a d _) q20 dX6_bring_144 ?_
                  obtain ⟨q21, h⟩ := ck_some h
                  refine w_lst hF hW (pC_65 K a d _) q21 (uC_65 K a d _ _ _) dX6_bring_145 (fun H locs hW => ?_)
                  refine lv_aload_n hx hb dX6_bring_146 rfl (lv_at hl 0 rfl) ?_
                  refine g_X6_19 hF hW dX6_bring_147 ?_
                  refine lv_iload hx hb dX6_bring_150 (lv_at hl 5 rfl) ?_
                  refine lv_aload_n hx hb dX6_bring_152 rfl (lv_at hl 0 rfl) ?_
                  refine g_X6_19 hF hW dX6_bring_153 ?_
                  refine lv_iload hx hb dX6_bring_156 (lv_at hl 5 rfl) ?_
                  refine lv_iconst (v := 1) hx hb dX6_bring_158 (by decide) ?_
                  refine lv_isub hx hb dX6_bring_159 ?_
                  obtain ⟨q22, h⟩ := ck_some h
                  refine w_lld hF hW (pC_66 K a d _) q22 dX6_bring_160 ?_
                  obtain ⟨q23, h⟩ := ck_some h
                  refine w_lst hF hW (pC_66 K a d _) q23 (uC_66 K a d _ _ _) dX6_bring_161 (fun H locs hW => ?_)
                  refine lv_iinc (v := (x8 + (-1))) (lv' := [(8, .int (x8 + (-1))), (0, .ref (a 63)), (1, .int x1), (2, .long x2), (4, .long x4), (7, .int (bI x7))]) hx hb dX6_bring_162 hl (k := 5) rfl rfl (by decide) rfl (fun ls hl => ?_)
                  refine lv_goto (tgt := 109) hx hb dX6_bring_165 (by decide) ?_
                  exact ih109 x1 x2 x4 x7 (x8 + (-1)) _ _ _ _ h hW (lv_sub hl [1, 2, 3, 4, 5, 0] rfl)
            intro x1 x2 x4 x6 x7 M H locs ls h hW hl
            unfold f_X6_bring_96 at h
            refine lv_iload hx hb dX6_bring_96 (lv_at hl 4 rfl) ?_
            refine lv_aload_n hx hb dX6_bring_98 rfl (lv_at hl 0 rfl) ?_
            refine g_X6_26 hF hW dX6_bring_99 ?_
            refine lv_iconst (v := 1) hx hb dX6_bring_102 (by decide) ?_
            refine lv_isub hx hb dX6_bring_103 ?_
            obtain ⟨r11, hc13, h⟩ := bq_some h
            refine cS_i (rest := []) hF hW mw_X6_29 (c_J9_min_7cf53 l K hc13) ⟨Nat.le_of_ble_eq_true rfl, Nat.le_of_ble_eq_true rfl⟩ rfl hl.1 rfl (Nat.le_of_ble_eq_true rfl) dX6_bring_104 ⟨Nat.le_of_ble_eq_true rfl, Nat.le_of_ble_eq_true rfl⟩ (fun _ H locs hW => ?_)
            refine lv_istore (lv' := [(8, .int r11), (0, .ref (a 63)), (1, .int x1), (2, .long x2), (4, .long x4), (6, .int x6), (7, .int (bI x7))]) hx hb dX6_bring_107 hl (by decide) rfl (fun ls hl => ?_)
            exact J109 100000 x1 x2 x4 x7 r11 _ _ _ _ h hW (lv_sub hl [1, 2, 3, 4, 6, 0] rfl)
          intro x1 x2 x4 x6 s0 M H locs ls h hW hl
          unfold f_X6_bring_68 at h
          refine lv_istore (lv' := [(7, .int (bI s0)), (0, .ref (a 63)), (1, .int x1), (2, .long x2), (4, .long x4), (6, .int x6)]) hx hb dX6_bring_68 hl (by decide) rfl (fun ls hl => ?_)
          refine lv_iload hx hb dX6_bring_70 (lv_at hl 0 rfl) ?_
          refine lz_eq (tgt := 96) hx hb dX6_bring_72 (by decide) (fun q9 => ?_) (fun q9 => ?_)
          · have h := ifn q9 h
            exact J96 x1 x2 x4 x6 s0 _ _ _ _ h hW (lv_sub hl [1, 2, 3, 4, 5, 0] rfl)
          · have h := ifp q9 h
            refine lv_aload_n hx hb dX6_bring_75 rfl (lv_at hl 1 rfl) ?_
            refine g_X6_26 hF hW dX6_bring_76 ?_
            refine lv_aload_n hx hb dX6_bring_79 rfl (lv_at hl 1 rfl) ?_
            refine g_X6_22 hF hW dX6_bring_80 ?_
            refine lv_icmp_ge (tgt := 96) hx hb dX6_bring_83 (by decide) (fun q10 => ?_) (fun q10 => ?_)
            · have h := ifp q10 h
              exact J96 x1 x2 x4 x6 s0 _ _ _ _ h hW (lv_sub hl [1, 2, 3, 4, 5, 0] rfl)
            · have h := ifn q10 h
              refine lv_aload_n hx hb dX6_bring_86 rfl (lv_at hl 1 rfl) ?_
              refine lv_dup hx hb dX6_bring_87 rfl ?_
              refine g_X6_26 hF hW dX6_bring_88 ?_
              refine lv_iconst (v := 1) hx hb dX6_bring_91 (by decide) ?_
              refine lv_iadd hx hb dX6_bring_92 ?_
              refine s_X6_26 (x := ((M.1 125 0) + 1)) hF hW dX6_bring_93 (fun H locs hW => ?_)
              exact J96 x1 x2 x4 x6 s0 _ _ _ _ h hW (lv_sub hl [1, 2, 3, 4, 5, 0] rfl)
        intro x1 x2 x4 x6 M H locs ls h hW hl
        unfold f_X6_bring_54 at h
        refine lv_iload hx hb dX6_bring_54 (lv_at hl 4 rfl) ?_
        refine lv_aload_n hx hb dX6_bring_56 rfl (lv_at hl 0 rfl) ?_
        refine g_X6_26 hF hW dX6_bring_57 ?_
        refine lv_icmp_lt (tgt := 67) hx hb dX6_bring_60 (by decide) (fun q8 => ?_) (fun q8 => ?_)
        · have h := ifp q8 h
          refine lv_iconst (v := 0) hx hb dX6_bring_67 (by decide) ?_
          exact J68 x1 x2 x4 x6 false _ _ _ _ h hW (lv_sub hl [0, 1, 2, 3, 4] rfl)
        · have h := ifn q8 h
          refine lv_iconst (v := 1) hx hb dX6_bring_63 (by decide) ?_
          refine lv_goto (tgt := 68) hx hb dX6_bring_64 (by decide) ?_
          exact J68 x1 x2 x4 x6 true _ _ _ _ h hW (lv_sub hl [0, 1, 2, 3, 4] rfl)
      intro x1 x2 x4 x6 M H locs ls h hW hl
      rw [f_X6_bring_3] at h
      refine lv_iload hx hb dX6_bring_3 (lv_at hl 4 rfl) ?_
      refine lv_aload_n hx hb dX6_bring_5 rfl (lv_at hl 0 rfl) ?_
      refine g_X6_26 hF hW dX6_bring_6 ?_
      refine lv_icmp_ge (tgt := 54) hx hb dX6_bring_9 (by decide) (fun q1 => ?_) (fun q1 => ?_)
      · have h := ifp q1 h
        exact J54 x1 x2 x4 x6 _ _ _ _ h hW (lv_sub hl [0, 1, 2, 3, 4] rfl)
      · have h := ifn q1 h
        refine lv_aload_n hx hb dX6_bring_12 rfl (lv_at hl 0 rfl) ?_
        refine g_X6_9 hF hW dX6_bring_13 ?_
        refine lv_iload hx hb dX6_bring_16 (lv_at hl 4 rfl) ?_
        obtain ⟨q2, h⟩ := ck_some h
        refine w_ild hF hW (pC_64 K a d _) q2 dX6_bring_18 ?_
        refine lv_iload_n hx hb dX6_bring_19 rfl (lv_at hl 1 rfl) ?_
        refine lv_icmp_ne (tgt := 48) hx hb dX6_bring_20 (by decide) (fun q3 => ?_) (fun q3 => ?_)
        · have h := ifn q3 h
          refine lv_iinc (v := (x6 + 1)) (lv' := [(6, .int (x6 + 1)), (0, .ref (a 63)), (1, .int x1), (2, .long x2), (4, .long x4)]) hx hb dX6_bring_48 hl (k := 4) rfl rfl (by decide) rfl (fun ls hl => ?_)
          refine lv_goto (tgt := 3) hx hb dX6_bring_51 (by decide) ?_
          exact ih3 x1 x2 x4 (x6 + 1) _ _ _ _ h hW (lv_sub hl [1, 2, 3, 4, 0] rfl)
        · have h := ifp q3 h
          refine lv_aload_n hx hb dX6_bring_23 rfl (lv_at hl 0 rfl) ?_
          refine g_X6_15 hF hW dX6_bring_24 ?_
          refine lv_iload hx hb dX6_bring_27 (lv_at hl 4 rfl) ?_
          obtain ⟨q4, h⟩ := ck_some h
          refine w_lld hF hW (pC_65 K a d _) q4 dX6_bring_29 ?_
          refine lv_lload_n hx hb dX6_bring_30 rfl (lv_at hl 2 rfl) ?_
          refine ll_ne (tgt := 48) hx hb dX6_bring_31 dX6_bring_32 (by decide) (fun q5 => ?_) (fun q5 => ?_)
          · have h := ifn q5 h
            refine lv_iinc (v := (x6 + 1)) (lv' := [(6, .int (x6 + 1)), (0, .ref (a 63)), (1, .int x1), (2, .long x2), (4, .long x4)]) hx hb dX6_bring_48 hl (k := 4) rfl rfl (by decide) rfl (fun ls hl => ?_)
            refine lv_goto (tgt := 3) hx hb dX6_bring_51 (by decide) ?_
            exact ih3 x1 x2 x4 (x6 + 1) _ _ _ _ h hW (lv_sub hl [1, 2, 3, 4, 0] rfl)
          · have h := ifp q5 h
            refine lv_aload_n hx hb dX6_bring_35 rfl (lv_at hl 0 rfl) ?_
            refine g_X6_19 hF hW dX6_bring_36 ?_
            refine lv_iload hx hb dX6_bring_39 (lv_at hl 4 rfl) ?_
            obtain ⟨q6, h⟩ := ck_some h
            refine w_lld hF hW (pC_66 K a d _) q6 dX6_bring_41 ?_
            refine lv_lload hx hb dX6_bring_42 (lv_at hl 3 rfl) ?_
            refine ll_eq (tgt := 54) hx hb dX6_bring_44 dX6_bring_45 (by decide) (fun q7 => ?_) (fun q7 => ?_)
            · have h := ifp q7 h
              exact J54 x1 x2 x4 x6 _ _ _ _ h hW (lv_sub hl [0, 1, 2, 3, 4] rfl)
            · have h := ifn q7 h
              refine lv_iinc (v := (x6 + 1)) (lv' := [(6, .int (x6 + 1)), (0, .ref (a 63)), (1, .int x1), (2, .long x2), (4, .long x4)]) hx hb dX6_bring_48 hl (k := 4) rfl rfl (by decide) rfl (fun ls hl => ?_)
              refine lv_goto (tgt := 3) hx hb dX6_bring_51 (by decide) ?_
              exact ih3 x1 x2 x4 (x6 + 1) _ _ _ _ h hW (lv_sub hl [1, 2, 3, 4, 0] rfl)
  unfold f_X6_bring at h
  refine lv_iconst (v := 0) hx hb dX6_bring_0 (by decide) ?_
  refine lv_istore (lv' := [(6, .int 0), (0, .ref (a 63)), (1, .int x1), (2, .long x2), (4, .long x4)]) hx hb dX6_bring_1 hl (by decide) rfl (fun ls hl => ?_)
  exact J3 100000 x1 x2 x4 0 _ _ _ _ h hW (lv_sub hl [1, 2, 3, 4, 0] rfl)
set_option maxRecDepth 100000 in
set_option maxHeartbeats 1000000 in
theorem c_X7_at (l : Launch) (K : Kx) (a d : Nat → Nat) {M : Mem} {x1 : Int32} {x2 : Int32} {r0 : Int32} (h : f_X7_at M x1 x2 = some r0) : CMi l yX7_at cX7_at 3 (some .int) ({ frames := 0, cells := 0, slots := 0, locals := 0 } : Room) K [.ref (a 27), .int x1, .int x2] (wC K a d M) (fun _ => wC K a d M) r0 := by
  refine cs_i (by decide +kernel) (Nat.le_of_ble_eq_true rfl) ?_
  intro p e s m args below meth c A ls hF hr hk hnm hW hl
  have hx := hF.1
  have hb := hF.2.1
  have hl : lv_has ls 3 [(0, .ref (a 27)), (1, .int x1), (2, .int x2)] := hl
  obtain ⟨H, hH⟩ : ∃ z, z = s.heap := ⟨_, rfl⟩
  rw [← hH] at hW ⊢
  unfold f_X7_at at h
  refine lv_iload_n hx hb dX7_at_0 rfl (lv_at hl 1 rfl) ?_
  refine lv_bipush (v := 16) hx hb dX7_at_1 (by decide) ?_
  refine lv_imul hx hb dX7_at_3 ?_
  refine lv_iload_n hx hb dX7_at_4 rfl (lv_at hl 2 rfl) ?_
  refine lv_iadd hx hb dX7_at_5 ?_
  refine lv_bipush (v := 7) hx hb dX7_at_6 (by decide) ?_
  refine lv_imul hx hb dX7_at_8 ?_
  obtain rfl := Option.some.inj h
  exact rt_i hF hr hk rfl (fun _ => 0) hW rfl dX7_at_9
set_option maxRecDepth 100000 in
set_option maxHeartbeats 1000000 in
theorem c_X7_take_an (l : Launch) (K : Kx) (a d : Nat → Nat) {M M0 : Mem} {x2 : Int32}  (h : f_X7_take_an M x2 = some M0) : CMv l yX7_take cX7_take 3 ({ frames := 1, cells := 0, slots := 0, locals := 60 } : Room) K [.ref (a 30), .ref (a 27), .int x2] (wC K a d M) (fun _ => wC K a d M0) := by
  refine cs_v (by decide +kernel) (Nat.le_of_ble_eq_true rfl) ?_
  intro p e s m args below meth c A ls hF hr hk hnm hW hl
  have hx := hF.1
  have hb := hF.2.1
  have hl : lv_has ls 3 [(0, .ref (a 30)), (1, .ref (a 27)), (2, .int x2)] := hl
  obtain ⟨H, hH⟩ : ∃ z, z = s.heap := ⟨_, rfl⟩
  rw [← hH] at hW ⊢
  unfold f_X7_take_an at h
  refine lv_aload_n hx hb dX7_take_0 rfl (lv_at hl 1 rfl) ?_
  refine g_X7_9_now hF hW dX7_take_1 ?_
  refine lv_iconst (v := 0) hx hb dX7_take_4 (by decide) ?_
  refine lv_aload_n hx hb dX7_take_5 rfl (lv_at hl 0 rfl) ?_
  refine g_X7_9_aside hF hW dX7_take_6 ?_
  refine lv_iconst (v := 0) hx hb dX7_take_9 (by decide) ?_
  refine lv_iload_n hx hb dX7_take_10 rfl (lv_at hl 2 rfl) ?_
  refine lv_bipush (v := 16) hx hb dX7_take_11 (by decide) ?_
  refine lv_imul hx hb dX7_take_13 ?_
  refine lv_bipush (v := 7) hx hb dX7_take_14 (by decide) ?_
  refine lv_imul hx hb dX7_take_16 ?_
  obtain ⟨q1, h⟩ := ca_some h
  refine w_cpyi (rest := []) hF hW al_X7_18 ac_n ac_s ac_i (pC_28 K a d _) (pC_31 K a d _) q1 (vC_31 K a d _ _) hl.1 (Nat.le_of_ble_eq_true rfl) (Nat.le_of_ble_eq_true rfl) dX7_take_17 (fun H locs hW => ?_)
  refine lv_aload_n hx hb dX7_take_20 rfl (lv_at hl 1 rfl) ?_
  refine g_X7_15_now hF hW dX7_take_21 ?_
  refine lv_iconst (v := 0) hx hb dX7_take_24 (by decide) ?_
  refine lv_aload_n hx hb dX7_take_25 rfl (lv_at hl 0 rfl) ?_
  refine g_X7_15_aside hF hW dX7_take_26 ?_
  refine lv_iconst (v := 0) hx hb dX7_take_29 (by decide) ?_
  refine lv_iload_n hx hb dX7_take_30 rfl (lv_at hl 2 rfl) ?_
  obtain ⟨q2, h⟩ := ca_some h
  refine w_cpyi (rest := []) hF hW al_X7_18 ac_n ac_s ac_i (pC_29 K a d _) (pC_32 K a d _) q2 (vC_32 K a d _ _) hl.1 (Nat.le_of_ble_eq_true rfl) (Nat.le_of_ble_eq_true rfl) dX7_take_31 (fun H locs hW => ?_)
  obtain rfl := Option.some.inj h
  exact rt_v hF hr hk (fun _ => 0) hW dX7_take_34
