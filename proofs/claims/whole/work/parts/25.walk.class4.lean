set_option maxRecDepth 100000 in
set_option maxHeartbeats 1000000 in
theorem c_X11_loop (l : Launch) (K : Kx) (a d : Nat → Nat) {M M0 : Mem} {x1 : Int32} {x2 : Int32} {x3 : Int32} {x4 : Bool} {r0 : Int32} (h : f_X11_loop M x1 x2 x3 x4 = some (r0, M0)) : CMi l yX11_loop cX11_loop 6 (some .int) ({ frames := 6, cells := 0, slots := 0, locals := 157 } : Room) K [.ref (a 0), .int x1, .int x2, .int x3, .int (bI x4)] (wC K a d M) (fun _ => wC K a d M0) r0 := by
  refine cs_i (by decide +kernel) (Nat.le_of_ble_eq_true rfl) ?_
  intro p e s m args below meth c A ls hF hr hk hnm hW hl
  have hx := hF.1
  have hb := hF.2.1
  have hl : lv_has ls 6 [(0, .ref (a 0)), (1, .int x1), (2, .int x2), (3, .int x3), (4, .int (bI x4))] := hl
  obtain ⟨H, hH⟩ : ∃ z, z = s.heap := ⟨_, rfl⟩
  rw [← hH] at hW ⊢
  have J69 : ∀ (x2 : Int32) (x3 : Int32) (s1 : Int32) (s2 : Bool) (M : Mem) (H : Heap) (locs : List Loc) (ls : Array Slot), f_X11_loop_69 x2 x3 s1 s2 M = some (r0, M0) → Wd K A s (wC K a d M) H locs → lv_has ls 6 [(2, .int x2), (3, .int x3)] → W p l e ({ frames := 6, cells := 0, slots := 0, locals := 157 } : Room) s m args below meth c H locs 0 0 (EndI K A (fun _ => wC K a d M0) r0 below args s ({ frames := 6, cells := 0, slots := 0, locals := 157 } : Room)) (F0 m 69 ls [.int (bI s2), .int s1, .ref (a 0)]) := by
    intro x2 x3 s1 s2 M H locs ls h hW hl
    unfold f_X11_loop_69 at h
    refine lv_iload_n hx hb dX11_loop_69 rfl (lv_at hl 0 rfl) ?_
    refine lv_iload_n hx hb dX11_loop_70 rfl (lv_at hl 1 rfl) ?_
    obtain ⟨r18, M19, hc20, h⟩ := bd_some h
    refine cV_i (ci := 11) (q0 := 0) (rest := []) hF hW mw_X11_145 (c_X11_grow l K a d hc20) ⟨Nat.le_of_ble_eq_true rfl, Nat.le_of_ble_eq_true rfl⟩ rfl rfl (pC_0 K a d _) rfl hl.1 rfl (Nat.le_of_ble_eq_true rfl) dX11_loop_71 ⟨Nat.le_of_ble_eq_true rfl, Nat.le_of_ble_eq_true rfl⟩ (fun _ H locs hW => ?_)
    obtain ⟨rfl, rfl⟩ := Prod.mk.inj (Option.some.inj h)
    exact rt_i hF hr hk rfl (fun _ => 0) hW rfl dX11_loop_74
  unfold f_X11_loop at h
  refine lv_aload_n hx hb dX11_loop_0 rfl (lv_at hl 0 rfl) ?_
  refine g_X11_19 hF hW dX11_loop_1 ?_
  refine lv_iload_n hx hb dX11_loop_4 rfl (lv_at hl 1 rfl) ?_
  obtain ⟨r1, hc3, h⟩ := bq_some h
  refine cV_i (ci := 2) (q0 := 5) (rest := []) hF hW mw_X11_133 (c_X2_opens l K a d hc3) ⟨Nat.le_of_ble_eq_true rfl, Nat.le_of_ble_eq_true rfl⟩ rfl rfl (pC_5 K a d _) rfl hl.1 rfl (Nat.le_of_ble_eq_true rfl) dX11_loop_5 ⟨Nat.le_of_ble_eq_true rfl, Nat.le_of_ble_eq_true rfl⟩ (fun _ H locs hW => ?_)
  refine lz_ne (tgt := 13) hx hb dX11_loop_8 (by decide) (fun q4 => ?_) (fun q4 => ?_)
  · have h := ifp q4 h
    refine lv_aload_n hx hb dX11_loop_13 rfl (lv_at hl 0 rfl) ?_
    refine g_X11_19 hF hW dX11_loop_14 ?_
    refine lv_iload_n hx hb dX11_loop_17 rfl (lv_at hl 1 rfl) ?_
    obtain ⟨r5, hc7, h⟩ := bq_some h
    refine cV_i (ci := 2) (q0 := 5) (rest := []) hF hW mw_X11_137 (c_X2_loopsIn l K a d hc7) ⟨Nat.le_of_ble_eq_true rfl, Nat.le_of_ble_eq_true rfl⟩ rfl rfl (pC_5 K a d _) rfl hl.1 rfl (Nat.le_of_ble_eq_true rfl) dX11_loop_18 ⟨Nat.le_of_ble_eq_true rfl, Nat.le_of_ble_eq_true rfl⟩ (fun _ H locs hW => ?_)
    refine lv_istore (lv' := [(5, .int r5), (0, .ref (a 0)), (1, .int x1), (2, .int x2), (3, .int x3), (4, .int (bI x4))]) hx hb dX11_loop_21 hl (by decide) rfl (fun ls hl => ?_)
    refine lv_iload hx hb dX11_loop_23 (lv_at hl 0 rfl) ?_
    refine lv_iconst (v := 4) hx hb dX11_loop_25 (by decide) ?_
    refine lv_icmp_ge (tgt := 55) hx hb dX11_loop_26 (by decide) (fun q8 => ?_) (fun q8 => ?_)
    · have h := ifp q8 h
      refine lv_iconst (v := (-1)) hx hb dX11_loop_55 (by decide) ?_
      obtain ⟨rfl, rfl⟩ := Prod.mk.inj (Option.some.inj h)
      exact rt_i hF hr hk rfl (fun _ => 0) hW rfl dX11_loop_56
    · have h := ifn q8 h
      refine lv_aload_n hx hb dX11_loop_29 rfl (lv_at hl 1 rfl) ?_
      refine g_X11_10 hF hW dX11_loop_30 ?_
      refine lv_iload_n hx hb dX11_loop_33 rfl (lv_at hl 3 rfl) ?_
      refine lv_iload hx hb dX11_loop_34 (lv_at hl 0 rfl) ?_
      obtain ⟨r9, hc11, h⟩ := bq_some h
      refine cV_i (ci := 8) (q0 := 1) (rest := []) hF hW mw_X11_141 (c_X8_fits l K a d hc11) ⟨Nat.le_of_ble_eq_true rfl, Nat.le_of_ble_eq_true rfl⟩ rfl rfl (pC_1 K a d _) rfl hl.1 rfl (Nat.le_of_ble_eq_true rfl) dX11_loop_36 ⟨Nat.le_of_ble_eq_true rfl, Nat.le_of_ble_eq_true rfl⟩ (fun _ H locs hW => ?_)
      refine lz_eq (tgt := 55) hx hb dX11_loop_39 (by decide) (fun q12 => ?_) (fun q12 => ?_)
      · have h := ifn q12 h
        refine lv_iconst (v := (-1)) hx hb dX11_loop_55 (by decide) ?_
        obtain ⟨rfl, rfl⟩ := Prod.mk.inj (Option.some.inj h)
        exact rt_i hF hr hk rfl (fun _ => 0) hW rfl dX11_loop_56
      · have h := ifp q12 h
        refine lv_aload_n hx hb dX11_loop_42 rfl (lv_at hl 1 rfl) ?_
        refine g_X11_10 hF hW dX11_loop_43 ?_
        refine lv_iload_n hx hb dX11_loop_46 rfl (lv_at hl 4 rfl) ?_
        refine lv_iload hx hb dX11_loop_47 (lv_at hl 0 rfl) ?_
        obtain ⟨r13, hc15, h⟩ := bq_some h
        refine cV_i (ci := 8) (q0 := 1) (rest := []) hF hW mw_X11_141 (c_X8_fits l K a d hc15) ⟨Nat.le_of_ble_eq_true rfl, Nat.le_of_ble_eq_true rfl⟩ rfl rfl (pC_1 K a d _) rfl hl.1 rfl (Nat.le_of_ble_eq_true rfl) dX11_loop_49 ⟨Nat.le_of_ble_eq_true rfl, Nat.le_of_ble_eq_true rfl⟩ (fun _ H locs hW => ?_)
        refine lz_ne (tgt := 57) hx hb dX11_loop_52 (by decide) (fun q16 => ?_) (fun q16 => ?_)
        · have h := ifp q16 h
          refine lv_aload_n hx hb dX11_loop_57 rfl (lv_at hl 1 rfl) ?_
          refine lv_iload_n hx hb dX11_loop_58 rfl (lv_at hl 2 rfl) ?_
          refine lv_iload hx hb dX11_loop_59 (lv_at hl 5 rfl) ?_
          refine lz_eq (tgt := 68) hx hb dX11_loop_61 (by decide) (fun q17 => ?_) (fun q17 => ?_)
          · have h := ifn q17 h
            refine lv_iconst (v := 0) hx hb dX11_loop_68 (by decide) ?_
            exact J69 x2 x3 x1 false _ _ _ _ h hW (lv_sub hl [3, 4] rfl)
          · have h := ifp q17 h
            refine lv_iconst (v := 1) hx hb dX11_loop_64 (by decide) ?_
            refine lv_goto (tgt := 69) hx hb dX11_loop_65 (by decide) ?_
            exact J69 x2 x3 x1 true _ _ _ _ h hW (lv_sub hl [3, 4] rfl)
        · have h := ifn q16 h
          refine lv_iconst (v := (-1)) hx hb dX11_loop_55 (by decide) ?_
          obtain ⟨rfl, rfl⟩ := Prod.mk.inj (Option.some.inj h)
          exact rt_i hF hr hk rfl (fun _ => 0) hW rfl dX11_loop_56
  · have h := ifn q4 h
    refine lv_iconst (v := (-1)) hx hb dX11_loop_11 (by decide) ?_
    obtain ⟨rfl, rfl⟩ := Prod.mk.inj (Option.some.inj h)
    exact rt_i hF hr hk rfl (fun _ => 0) hW rfl dX11_loop_12
set_option maxRecDepth 100000 in
set_option maxHeartbeats 1000000 in
theorem c_X11_test (l : Launch) (K : Kx) (a d : Nat → Nat) {M M0 : Mem} {x1 : Int32} {x2 : Int32} {x3 : Int32} {r0 : Int32} (h : f_X11_test M x1 x2 x3 = some (r0, M0)) : CMi l yX11_test cX11_test 4 (some .int) ({ frames := 6, cells := 0, slots := 0, locals := 157 } : Room) K [.ref (a 0), .int x1, .int x2, .int x3] (wC K a d M) (fun _ => wC K a d M0) r0 := by
  refine cs_i (by decide +kernel) (Nat.le_of_ble_eq_true rfl) ?_
  intro p e s m args below meth c A ls hF hr hk hnm hW hl
  have hx := hF.1
  have hb := hF.2.1
  have hl : lv_has ls 4 [(0, .ref (a 0)), (1, .int x1), (2, .int x2), (3, .int x3)] := hl
  obtain ⟨H, hH⟩ : ∃ z, z = s.heap := ⟨_, rfl⟩
  rw [← hH] at hW ⊢
  unfold f_X11_test at h
  refine lv_aload_n hx hb dX11_test_0 rfl (lv_at hl 0 rfl) ?_
  refine g_X11_19 hF hW dX11_test_1 ?_
  refine lv_iload_n hx hb dX11_test_4 rfl (lv_at hl 1 rfl) ?_
  obtain ⟨r1, hc3, h⟩ := bq_some h
  refine cV_i (ci := 2) (q0 := 5) (rest := []) hF hW mw_X11_133 (c_X2_opens l K a d hc3) ⟨Nat.le_of_ble_eq_true rfl, Nat.le_of_ble_eq_true rfl⟩ rfl rfl (pC_5 K a d _) rfl hl.1 rfl (Nat.le_of_ble_eq_true rfl) dX11_test_5 ⟨Nat.le_of_ble_eq_true rfl, Nat.le_of_ble_eq_true rfl⟩ (fun _ H locs hW => ?_)
  refine lz_eq (tgt := 22) hx hb dX11_test_8 (by decide) (fun q4 => ?_) (fun q4 => ?_)
  · have h := ifn q4 h
    refine lv_iconst (v := (-1)) hx hb dX11_test_22 (by decide) ?_
    obtain ⟨rfl, rfl⟩ := Prod.mk.inj (Option.some.inj h)
    exact rt_i hF hr hk rfl (fun _ => 0) hW rfl dX11_test_23
  · have h := ifp q4 h
    refine lv_iload_n hx hb dX11_test_11 rfl (lv_at hl 3 rfl) ?_
    refine lv_iconst (v := 0) hx hb dX11_test_12 (by decide) ?_
    refine lv_sipush (v := 1000) hx hb dX11_test_13 (by decide) ?_
    obtain ⟨r5, hc7, h⟩ := bq_some h
    refine cS_i (rest := []) hF hW mw_X11_113 (c_X11_within l K hc7) ⟨Nat.le_of_ble_eq_true rfl, Nat.le_of_ble_eq_true rfl⟩ rfl hl.1 rfl (Nat.le_of_ble_eq_true rfl) dX11_test_16 ⟨Nat.le_of_ble_eq_true rfl, Nat.le_of_ble_eq_true rfl⟩ (fun _ H locs hW => ?_)
    refine lz_ne (tgt := 24) hx hb dX11_test_19 (by decide) (fun q8 => ?_) (fun q8 => ?_)
    · have h := ifp q8 h
      refine lv_aload_n hx hb dX11_test_24 rfl (lv_at hl 0 rfl) ?_
      refine g_X11_10 hF hW dX11_test_25 ?_
      refine lv_iload_n hx hb dX11_test_28 rfl (lv_at hl 2 rfl) ?_
      refine lv_aload_n hx hb dX11_test_29 rfl (lv_at hl 0 rfl) ?_
      refine g_X11_19 hF hW dX11_test_30 ?_
      refine lv_iload_n hx hb dX11_test_33 rfl (lv_at hl 1 rfl) ?_
      obtain ⟨r9, hc11, h⟩ := bq_some h
      refine cV_i (ci := 2) (q0 := 5) (rest := [.int x2, .ref (a 1)]) hF hW mw_X11_137 (c_X2_loopsIn l K a d hc11) ⟨Nat.le_of_ble_eq_true rfl, Nat.le_of_ble_eq_true rfl⟩ rfl rfl (pC_5 K a d _) rfl hl.1 rfl (Nat.le_of_ble_eq_true rfl) dX11_test_34 ⟨Nat.le_of_ble_eq_true rfl, Nat.le_of_ble_eq_true rfl⟩ (fun _ H locs hW => ?_)
      obtain ⟨r12, hc14, h⟩ := bq_some h
      refine cV_i (ci := 8) (q0 := 1) (rest := []) hF hW mw_X11_141 (c_X8_fits l K a d hc14) ⟨Nat.le_of_ble_eq_true rfl, Nat.le_of_ble_eq_true rfl⟩ rfl rfl (pC_1 K a d _) rfl hl.1 rfl (Nat.le_of_ble_eq_true rfl) dX11_test_37 ⟨Nat.le_of_ble_eq_true rfl, Nat.le_of_ble_eq_true rfl⟩ (fun _ H locs hW => ?_)
      refine lz_ne (tgt := 45) hx hb dX11_test_40 (by decide) (fun q15 => ?_) (fun q15 => ?_)
      · have h := ifp q15 h
        refine lv_aload_n hx hb dX11_test_45 rfl (lv_at hl 0 rfl) ?_
        refine lv_iload_n hx hb dX11_test_46 rfl (lv_at hl 1 rfl) ?_
        refine lv_iconst (v := 2) hx hb dX11_test_47 (by decide) ?_
        refine lv_iload_n hx hb dX11_test_48 rfl (lv_at hl 2 rfl) ?_
        refine lv_iload_n hx hb dX11_test_49 rfl (lv_at hl 3 rfl) ?_
        obtain ⟨r16, M17, hc18, h⟩ := bd_some h
        refine cV_i (ci := 11) (q0 := 0) (rest := []) hF hW mw_X11_145 (c_X11_grow l K a d hc18) ⟨Nat.le_of_ble_eq_true rfl, Nat.le_of_ble_eq_true rfl⟩ rfl rfl (pC_0 K a d _) rfl hl.1 rfl (Nat.le_of_ble_eq_true rfl) dX11_test_50 ⟨Nat.le_of_ble_eq_true rfl, Nat.le_of_ble_eq_true rfl⟩ (fun _ H locs hW => ?_)
        obtain ⟨rfl, rfl⟩ := Prod.mk.inj (Option.some.inj h)
        exact rt_i hF hr hk rfl (fun _ => 0) hW rfl dX11_test_53
      · have h := ifn q15 h
        refine lv_iconst (v := (-1)) hx hb dX11_test_43 (by decide) ?_
        obtain ⟨rfl, rfl⟩ := Prod.mk.inj (Option.some.inj h)
        exact rt_i hF hr hk rfl (fun _ => 0) hW rfl dX11_test_44
    · have h := ifn q8 h
      refine lv_iconst (v := (-1)) hx hb dX11_test_22 (by decide) ?_
      obtain ⟨rfl, rfl⟩ := Prod.mk.inj (Option.some.inj h)
      exact rt_i hF hr hk rfl (fun _ => 0) hW rfl dX11_test_23
set_option maxRecDepth 100000 in
set_option maxHeartbeats 1000000 in
theorem c_X11_act (l : Launch) (K : Kx) (a d : Nat → Nat) {M M0 : Mem} {x1 : Int32} {x2 : Int32} {x3 : Int32} {r0 : Int32} (h : f_X11_act M x1 x2 x3 = some (r0, M0)) : CMi l yX11_act cX11_act 4 (some .int) ({ frames := 6, cells := 0, slots := 0, locals := 157 } : Room) K [.ref (a 0), .int x1, .int x2, .int x3] (wC K a d M) (fun _ => wC K a d M0) r0 := by
  refine cs_i (by decide +kernel) (Nat.le_of_ble_eq_true rfl) ?_
  intro p e s m args below meth c A ls hF hr hk hnm hW hl
  have hx := hF.1
  have hb := hF.2.1
  have hl : lv_has ls 4 [(0, .ref (a 0)), (1, .int x1), (2, .int x2), (3, .int x3)] := hl
  obtain ⟨H, hH⟩ : ∃ z, z = s.heap := ⟨_, rfl⟩
  rw [← hH] at hW ⊢
  unfold f_X11_act at h
  refine lv_aload_n hx hb dX11_act_0 rfl (lv_at hl 0 rfl) ?_
  refine g_X11_19 hF hW dX11_act_1 ?_
  refine lv_iload_n hx hb dX11_act_4 rfl (lv_at hl 1 rfl) ?_
  obtain ⟨r1, hc3, h⟩ := bq_some h
  refine cV_i (ci := 2) (q0 := 5) (rest := []) hF hW mw_X11_133 (c_X2_opens l K a d hc3) ⟨Nat.le_of_ble_eq_true rfl, Nat.le_of_ble_eq_true rfl⟩ rfl rfl (pC_5 K a d _) rfl hl.1 rfl (Nat.le_of_ble_eq_true rfl) dX11_act_5 ⟨Nat.le_of_ble_eq_true rfl, Nat.le_of_ble_eq_true rfl⟩ (fun _ H locs hW => ?_)
  refine lz_eq (tgt := 20) hx hb dX11_act_8 (by decide) (fun q4 => ?_) (fun q4 => ?_)
  · have h := ifn q4 h
    refine lv_iconst (v := (-1)) hx hb dX11_act_20 (by decide) ?_
    obtain ⟨rfl, rfl⟩ := Prod.mk.inj (Option.some.inj h)
    exact rt_i hF hr hk rfl (fun _ => 0) hW rfl dX11_act_21
  · have h := ifp q4 h
    refine lv_iload_n hx hb dX11_act_11 rfl (lv_at hl 2 rfl) ?_
    refine lv_iconst (v := 0) hx hb dX11_act_12 (by decide) ?_
    refine lv_iconst (v := 5) hx hb dX11_act_13 (by decide) ?_
    obtain ⟨r5, hc7, h⟩ := bq_some h
    refine cS_i (rest := []) hF hW mw_X11_113 (c_X11_within l K hc7) ⟨Nat.le_of_ble_eq_true rfl, Nat.le_of_ble_eq_true rfl⟩ rfl hl.1 rfl (Nat.le_of_ble_eq_true rfl) dX11_act_14 ⟨Nat.le_of_ble_eq_true rfl, Nat.le_of_ble_eq_true rfl⟩ (fun _ H locs hW => ?_)
    refine lz_ne (tgt := 22) hx hb dX11_act_17 (by decide) (fun q8 => ?_) (fun q8 => ?_)
    · have h := ifp q8 h
      refine lv_aload_n hx hb dX11_act_22 rfl (lv_at hl 0 rfl) ?_
      refine g_X11_19 hF hW dX11_act_23 ?_
      refine g_X11_149 hF hW dX11_act_26 ?_
      refine lv_bipush (v := 12) hx hb dX11_act_29 (by decide) ?_
      refine lv_icmp_lt (tgt := 37) hx hb dX11_act_31 (by decide) (fun q9 => ?_) (fun q9 => ?_)
      · have h := ifp q9 h
        refine lv_aload_n hx hb dX11_act_37 rfl (lv_at hl 0 rfl) ?_
        refine lv_iload_n hx hb dX11_act_38 rfl (lv_at hl 1 rfl) ?_
        refine lv_iconst (v := 3) hx hb dX11_act_39 (by decide) ?_
        refine lv_iload_n hx hb dX11_act_40 rfl (lv_at hl 2 rfl) ?_
        refine lv_iload_n hx hb dX11_act_41 rfl (lv_at hl 3 rfl) ?_
        obtain ⟨r10, M11, hc12, h⟩ := bd_some h
        refine cV_i (ci := 11) (q0 := 0) (rest := []) hF hW mw_X11_145 (c_X11_grow l K a d hc12) ⟨Nat.le_of_ble_eq_true rfl, Nat.le_of_ble_eq_true rfl⟩ rfl rfl (pC_0 K a d _) rfl hl.1 rfl (Nat.le_of_ble_eq_true rfl) dX11_act_42 ⟨Nat.le_of_ble_eq_true rfl, Nat.le_of_ble_eq_true rfl⟩ (fun _ H locs hW => ?_)
        obtain ⟨rfl, rfl⟩ := Prod.mk.inj (Option.some.inj h)
        exact rt_i hF hr hk rfl (fun _ => 0) hW rfl dX11_act_45
      · have h := ifn q9 h
        refine lv_bipush (v := (-2)) hx hb dX11_act_34 (by decide) ?_
        obtain ⟨rfl, rfl⟩ := Prod.mk.inj (Option.some.inj h)
        exact rt_i hF hr hk rfl (fun _ => 0) hW rfl dX11_act_36
    · have h := ifn q8 h
      refine lv_iconst (v := (-1)) hx hb dX11_act_20 (by decide) ?_
      obtain ⟨rfl, rfl⟩ := Prod.mk.inj (Option.some.inj h)
      exact rt_i hF hr hk rfl (fun _ => 0) hW rfl dX11_act_21
set_option maxRecDepth 100000 in
set_option maxHeartbeats 1000000 in
theorem c_X11_countFetched (l : Launch) (K : Kx) (a d : Nat → Nat) {M M0 : Mem} {x1 : Int32} {x2 : Int32} {r0 : Int32} (h : f_X11_countFetched M x1 x2 = some (r0, M0)) : CMi l yX11_countFetched cX11_countFetched 6 (some .int) ({ frames := 4, cells := 0, slots := 0, locals := 108 } : Room) K [.ref (a 0), .int x1, .int x2] (wC K a d M) (fun _ => wC K a d M0) r0 := by
  refine cs_i (by decide +kernel) (Nat.le_of_ble_eq_true rfl) ?_
  intro p e s m args below meth c A ls hF hr hk hnm hW hl
  have hx := hF.1
  have hb := hF.2.1
  have hl : lv_has ls 6 [(0, .ref (a 0)), (1, .int x1), (2, .int x2)] := hl
  obtain ⟨H, hH⟩ : ∃ z, z = s.heap := ⟨_, rfl⟩
  rw [← hH] at hW ⊢
  have J27 : ∀ (n27 : Nat) (x2 : Int32) (x3 : Int32) (x4 : Int32) (M : Mem) (H : Heap) (locs : List Loc) (ls : Array Slot), f_X11_countFetched_27 n27 x2 x3 x4 M = some (r0, M0) → Wd K A s (wC K a d M) H locs → lv_has ls 6 [(0, .ref (a 0)), (2, .int x2), (3, .int x3), (4, .int x4)] → W p l e ({ frames := 4, cells := 0, slots := 0, locals := 108 } : Room) s m args below meth c H locs 0 0 (EndI K A (fun _ => wC K a d M0) r0 below args s ({ frames := 4, cells := 0, slots := 0, locals := 108 } : Room)) (F0 m 27 ls []) := by
    intro n27
    induction n27 with
    | zero => intro x2 x3 x4 M H locs ls h; exact absurd h (by simp [f_X11_countFetched_27])
    | succ n27 ih27 =>
      intro x2 x3 x4 M H locs ls h hW hl
      rw [f_X11_countFetched_27] at h
      refine lv_iload hx hb dX11_countFetched_27 (lv_at hl 3 rfl) ?_
      refine lv_aload_n hx hb dX11_countFetched_29 rfl (lv_at hl 0 rfl) ?_
      refine g_X11_54 hF hW dX11_countFetched_30 ?_
      refine g_X11_248 hF hW dX11_countFetched_33 ?_
      refine lv_icmp_ge (tgt := 86) hx hb dX11_countFetched_36 (by decide) (fun q10 => ?_) (fun q10 => ?_)
      · have h := ifp q10 h
        refine lv_iload_n hx hb dX11_countFetched_86 rfl (lv_at hl 2 rfl) ?_
        obtain ⟨rfl, rfl⟩ := Prod.mk.inj (Option.some.inj h)
        exact rt_i hF hr hk rfl (fun _ => 0) hW rfl dX11_countFetched_87
      · have h := ifn q10 h
        refine lv_aload_n hx hb dX11_countFetched_39 rfl (lv_at hl 0 rfl) ?_
        refine g_X11_81 hF hW dX11_countFetched_40 ?_
        refine g_X11_451 hF hW dX11_countFetched_43 ?_
        refine lv_iload hx hb dX11_countFetched_46 (lv_at hl 3 rfl) ?_
        obtain ⟨q11, h⟩ := ck_some h
        refine w_ild hF hW (pC_57 K a d _) q11 dX11_countFetched_48 ?_
        refine lv_istore (lv' := [(5, .int (M.1 57 x4.toNatClampNeg)), (0, .ref (a 0)), (2, .int x2), (3, .int x3), (4, .int x4)]) hx hb dX11_countFetched_49 hl (by decide) rfl (fun ls hl => ?_)
        refine lv_iload_n hx hb dX11_countFetched_51 rfl (lv_at hl 3 rfl) ?_
        refine lv_aload_n hx hb dX11_countFetched_52 rfl (lv_at hl 1 rfl) ?_
        refine lv_iload hx hb dX11_countFetched_53 (lv_at hl 0 rfl) ?_
        refine lv_iconst (v := 1) hx hb dX11_countFetched_55 (by decide) ?_
        refine lv_iload_n hx hb dX11_countFetched_56 rfl (lv_at hl 2 rfl) ?_
        obtain ⟨r12, M13, hc14, h⟩ := bd_some h
        refine cV_i (ci := 11) (q0 := 0) (rest := [.int x3]) hF hW mw_X11_482 (c_X11_fetchBy l K a d hc14) ⟨Nat.le_of_ble_eq_true rfl, Nat.le_of_ble_eq_true rfl⟩ rfl rfl (pC_0 K a d _) rfl hl.1 rfl (Nat.le_of_ble_eq_true rfl) dX11_countFetched_57 ⟨Nat.le_of_ble_eq_true rfl, Nat.le_of_ble_eq_true rfl⟩ (fun _ H locs hW => ?_)
        refine lv_aload_n hx hb dX11_countFetched_60 rfl (lv_at hl 1 rfl) ?_
        refine lv_iload hx hb dX11_countFetched_61 (lv_at hl 0 rfl) ?_
        refine lv_iconst (v := 2) hx hb dX11_countFetched_63 (by decide) ?_
        refine lv_iload_n hx hb dX11_countFetched_64 rfl (lv_at hl 2 rfl) ?_
        obtain ⟨r15, M16, hc17, h⟩ := bd_some h
        refine cV_i (ci := 11) (q0 := 0) (rest := [.int r12, .int x3]) hF hW mw_X11_482 (c_X11_fetchBy l K a d hc17) ⟨Nat.le_of_ble_eq_true rfl, Nat.le_of_ble_eq_true rfl⟩ rfl rfl (pC_0 K a d _) rfl hl.1 rfl (Nat.le_of_ble_eq_true rfl) dX11_countFetched_65 ⟨Nat.le_of_ble_eq_true rfl, Nat.le_of_ble_eq_true rfl⟩ (fun _ H locs hW => ?_)
        refine lv_iadd hx hb dX11_countFetched_68 ?_
        refine lv_aload_n hx hb dX11_countFetched_69 rfl (lv_at hl 1 rfl) ?_
        refine lv_iload hx hb dX11_countFetched_70 (lv_at hl 0 rfl) ?_
        refine lv_iconst (v := 0) hx hb dX11_countFetched_72 (by decide) ?_
        refine lv_iload_n hx hb dX11_countFetched_73 rfl (lv_at hl 2 rfl) ?_
        obtain ⟨r18, M19, hc20, h⟩ := bd_some h
        refine cV_i (ci := 11) (q0 := 0) (rest := [.int (r12 + r15), .int x3]) hF hW mw_X11_482 (c_X11_fetchBy l K a d hc20) ⟨Nat.le_of_ble_eq_true rfl, Nat.le_of_ble_eq_true rfl⟩ rfl rfl (pC_0 K a d _) rfl hl.1 rfl (Nat.le_of_ble_eq_true rfl) dX11_countFetched_74 ⟨Nat.le_of_ble_eq_true rfl, Nat.le_of_ble_eq_true rfl⟩ (fun _ H locs hW => ?_)
        refine lv_iadd hx hb dX11_countFetched_77 ?_
        refine lv_iadd hx hb dX11_countFetched_78 ?_
        refine lv_istore_n (lv' := [(3, .int (x3 + ((r12 + r15) + r18))), (5, .int (M.1 57 x4.toNatClampNeg)), (0, .ref (a 0)), (2, .int x2), (4, .int x4)]) hx hb dX11_countFetched_79 rfl hl (by decide) rfl (fun ls hl => ?_)
        refine lv_iinc (v := (x4 + 1)) (lv' := [(4, .int (x4 + 1)), (3, .int (x3 + ((r12 + r15) + r18))), (5, .int (M.1 57 x4.toNatClampNeg)), (0, .ref (a 0)), (2, .int x2)]) hx hb dX11_countFetched_80 hl (k := 4) rfl rfl (by decide) rfl (fun ls hl => ?_)
        refine lv_goto (tgt := 27) hx hb dX11_countFetched_83 (by decide) ?_
        exact ih27 x2 (x3 + ((r12 + r15) + r18)) (x4 + 1) _ _ _ _ h hW (lv_sub hl [3, 4, 1, 0] rfl)
  unfold f_X11_countFetched at h
  refine lv_aload_n hx hb dX11_countFetched_0 rfl (lv_at hl 0 rfl) ?_
  refine g_X11_63 hF hW dX11_countFetched_1 ?_
  obtain ⟨M2, hc3, h⟩ := bm_some h
  refine cV_v (ci := 9) (q0 := 38) (rest := []) hF hW mw_X11_378 (c_X9_refresh l K a d hc3) ⟨Nat.le_of_ble_eq_true rfl, Nat.le_of_ble_eq_true rfl⟩ rfl rfl (pC_38 K a d _) rfl hl.1 rfl (Nat.le_of_ble_eq_true rfl) dX11_countFetched_4 ⟨Nat.le_of_ble_eq_true rfl, Nat.le_of_ble_eq_true rfl⟩ (fun _ H locs hW => ?_)
  refine lv_aload_n hx hb dX11_countFetched_7 rfl (lv_at hl 0 rfl) ?_
  refine g_X11_81 hF hW dX11_countFetched_8 ?_
  obtain ⟨M5, hc6, h⟩ := bm_some h
  refine cV_v (ci := 10) (q0 := 55) (rest := []) hF hW mw_X11_448 (c_X10_arrange l K a d hc6) ⟨Nat.le_of_ble_eq_true rfl, Nat.le_of_ble_eq_true rfl⟩ rfl rfl (pC_55 K a d _) rfl hl.1 rfl (Nat.le_of_ble_eq_true rfl) dX11_countFetched_11 ⟨Nat.le_of_ble_eq_true rfl, Nat.le_of_ble_eq_true rfl⟩ (fun _ H locs hW => ?_)
  refine lv_aload_n hx hb dX11_countFetched_14 rfl (lv_at hl 0 rfl) ?_
  refine g_X11_88 hF hW dX11_countFetched_15 ?_
  refine lv_iload_n hx hb dX11_countFetched_18 rfl (lv_at hl 1 rfl) ?_
  obtain ⟨M8, hc9, h⟩ := bm_some h
  refine cV_v (ci := 6) (q0 := 63) (rest := []) hF hW mw_X11_479 (c_X6_clear l K a d hc9) ⟨Nat.le_of_ble_eq_true rfl, Nat.le_of_ble_eq_true rfl⟩ rfl rfl (pC_63 K a d _) rfl hl.1 rfl (Nat.le_of_ble_eq_true rfl) dX11_countFetched_19 ⟨Nat.le_of_ble_eq_true rfl, Nat.le_of_ble_eq_true rfl⟩ (fun _ H locs hW => ?_)
  refine lv_iconst (v := 0) hx hb dX11_countFetched_22 (by decide) ?_
  refine lv_istore_n (lv' := [(3, .int 0), (0, .ref (a 0)), (1, .int x1), (2, .int x2)]) hx hb dX11_countFetched_23 rfl hl (by decide) rfl (fun ls hl => ?_)
  refine lv_iconst (v := 0) hx hb dX11_countFetched_24 (by decide) ?_
  refine lv_istore (lv' := [(4, .int 0), (3, .int 0), (0, .ref (a 0)), (1, .int x1), (2, .int x2)]) hx hb dX11_countFetched_25 hl (by decide) rfl (fun ls hl => ?_)
  exact J27 100000 x2 0 0 _ _ _ _ h hW (lv_sub hl [2, 4, 1, 0] rfl)
set_option maxRecDepth 100000 in
set_option maxHeartbeats 1000000 in
theorem c_X11_tryChoice (l : Launch) (K : Kx) (a d : Nat → Nat) {M M0 : Mem} {x1 : Int32} {x2 : Int32} {x3 : Int32} {x4 : Int32} {r0 : Int32} (h : f_X11_tryChoice M x1 x2 x3 x4 = some (r0, M0)) : CMi l yX11_tryChoice cX11_tryChoice 6 (some .int) ({ frames := 5, cells := 0, slots := 0, locals := 133 } : Room) K [.ref (a 0), .int x1, .int x2, .int x3, .int x4] (wC K a d M) (fun _ => wC K a d M0) r0 := by
  refine cs_i (by decide +kernel) (Nat.le_of_ble_eq_true rfl) ?_
  intro p e s m args below meth c A ls hF hr hk hnm hW hl
  have hx := hF.1
  have hb := hF.2.1
  have hl : lv_has ls 6 [(0, .ref (a 0)), (1, .int x1), (2, .int x2), (3, .int x3), (4, .int x4)] := hl
  obtain ⟨H, hH⟩ : ∃ z, z = s.heap := ⟨_, rfl⟩
  rw [← hH] at hW ⊢
  have J39 : ∀ (s0 : Int32) (M : Mem) (H : Heap) (locs : List Loc) (ls : Array Slot), f_X11_tryChoice_39 s0 M = some (r0, M0) → Wd K A s (wC K a d M) H locs → lv_has ls 6 [(0, .ref (a 0))] → W p l e ({ frames := 5, cells := 0, slots := 0, locals := 133 } : Room) s m args below meth c H locs 0 0 (EndI K A (fun _ => wC K a d M0) r0 below args s ({ frames := 5, cells := 0, slots := 0, locals := 133 } : Room)) (F0 m 39 ls [.int s0]) := by
    intro s0 M H locs ls h hW hl
    unfold f_X11_tryChoice_39 at h
    refine lv_istore (lv' := [(5, .int s0), (0, .ref (a 0))]) hx hb dX11_tryChoice_39 hl (by decide) rfl (fun ls hl => ?_)
    refine lv_aload_n hx hb dX11_tryChoice_41 rfl (lv_at hl 1 rfl) ?_
    refine g_X11_45 hF hW dX11_tryChoice_42 ?_
    obtain ⟨M18, hc19, h⟩ := bm_some h
    refine cV_v (ci := 3) (q0 := 26) (rest := []) hF hW mw_X11_498 (c_X3_takeAside l K a d hc19) ⟨Nat.le_of_ble_eq_true rfl, Nat.le_of_ble_eq_true rfl⟩ rfl rfl (pC_26 K a d _) rfl hl.1 rfl (Nat.le_of_ble_eq_true rfl) dX11_tryChoice_45 ⟨Nat.le_of_ble_eq_true rfl, Nat.le_of_ble_eq_true rfl⟩ (fun _ H locs hW => ?_)
    refine lv_iload hx hb dX11_tryChoice_48 (lv_at hl 0 rfl) ?_
    obtain ⟨rfl, rfl⟩ := Prod.mk.inj (Option.some.inj h)
    exact rt_i hF hr hk rfl (fun _ => 0) hW rfl dX11_tryChoice_50
  unfold f_X11_tryChoice at h
  refine lv_aload_n hx hb dX11_tryChoice_0 rfl (lv_at hl 0 rfl) ?_
  refine g_X11_45 hF hW dX11_tryChoice_1 ?_
  obtain ⟨M2, hc3, h⟩ := bm_some h
  refine cV_v (ci := 3) (q0 := 26) (rest := []) hF hW mw_X11_495 (c_X3_setAside l K a d hc3) ⟨Nat.le_of_ble_eq_true rfl, Nat.le_of_ble_eq_true rfl⟩ rfl rfl (pC_26 K a d _) rfl hl.1 rfl (Nat.le_of_ble_eq_true rfl) dX11_tryChoice_4 ⟨Nat.le_of_ble_eq_true rfl, Nat.le_of_ble_eq_true rfl⟩ (fun _ H locs hW => ?_)
  refine lv_aload_n hx hb dX11_tryChoice_7 rfl (lv_at hl 0 rfl) ?_
  refine lv_iload_n hx hb dX11_tryChoice_8 rfl (lv_at hl 1 rfl) ?_
  refine lv_iload_n hx hb dX11_tryChoice_9 rfl (lv_at hl 2 rfl) ?_
  obtain ⟨M5, hc6, h⟩ := bm_some h
  refine cV_v (ci := 11) (q0 := 0) (rest := []) hF hW mw_X11_397 (c_X11_makeChoice l K a d hc6) ⟨Nat.le_of_ble_eq_true rfl, Nat.le_of_ble_eq_true rfl⟩ rfl rfl (pC_0 K a d _) rfl hl.1 rfl (Nat.le_of_ble_eq_true rfl) dX11_tryChoice_10 ⟨Nat.le_of_ble_eq_true rfl, Nat.le_of_ble_eq_true rfl⟩ (fun _ H locs hW => ?_)
  refine lv_aload_n hx hb dX11_tryChoice_13 rfl (lv_at hl 0 rfl) ?_
  obtain ⟨M8, hc9, h⟩ := bm_some h
  refine cV_v (ci := 11) (q0 := 0) (rest := []) hF hW mw_X11_356 (c_X11_ordersChanged l K a d hc9) ⟨Nat.le_of_ble_eq_true rfl, Nat.le_of_ble_eq_true rfl⟩ rfl rfl (pC_0 K a d _) rfl hl.1 rfl (Nat.le_of_ble_eq_true rfl) dX11_tryChoice_14 ⟨Nat.le_of_ble_eq_true rfl, Nat.le_of_ble_eq_true rfl⟩ (fun _ H locs hW => ?_)
  refine lv_aload_n hx hb dX11_tryChoice_17 rfl (lv_at hl 0 rfl) ?_
  refine g_X11_81 hF hW dX11_tryChoice_18 ?_
  obtain ⟨r10, M11, hc12, h⟩ := bd_some h
  refine cV_i (ci := 10) (q0 := 55) (rest := []) hF hW mw_X11_366 (c_X10_isAllowed l K a d hc12) ⟨Nat.le_of_ble_eq_true rfl, Nat.le_of_ble_eq_true rfl⟩ rfl rfl (pC_55 K a d _) rfl hl.1 rfl (Nat.le_of_ble_eq_true rfl) dX11_tryChoice_21 ⟨Nat.le_of_ble_eq_true rfl, Nat.le_of_ble_eq_true rfl⟩ (fun _ H locs hW => ?_)
  refine lz_eq (tgt := 37) hx hb dX11_tryChoice_24 (by decide) (fun q13 => ?_) (fun q13 => ?_)
  · have h := ifn q13 h
    refine lv_bipush (v := (-9)) hx hb dX11_tryChoice_37 (by decide) ?_
    exact J39 (-9) _ _ _ _ h hW (lv_sub hl [0] rfl)
  · have h := ifp q13 h
    refine lv_aload_n hx hb dX11_tryChoice_27 rfl (lv_at hl 0 rfl) ?_
    refine lv_iload_n hx hb dX11_tryChoice_28 rfl (lv_at hl 3 rfl) ?_
    refine lv_iload hx hb dX11_tryChoice_29 (lv_at hl 4 rfl) ?_
    obtain ⟨r14, M15, hc16, h⟩ := bd_some h
    refine cV_i (ci := 11) (q0 := 0) (rest := []) hF hW mw_X11_388 (c_X11_countFetched l K a d hc16) ⟨Nat.le_of_ble_eq_true rfl, Nat.le_of_ble_eq_true rfl⟩ rfl rfl (pC_0 K a d _) rfl hl.1 rfl (Nat.le_of_ble_eq_true rfl) dX11_tryChoice_31 ⟨Nat.le_of_ble_eq_true rfl, Nat.le_of_ble_eq_true rfl⟩ (fun _ H locs hW => ?_)
    refine lv_goto (tgt := 39) hx hb dX11_tryChoice_34 (by decide) ?_
    exact J39 r14 _ _ _ _ h hW (lv_sub hl [0] rfl)
set_option maxRecDepth 100000 in
set_option maxHeartbeats 1000000 in
theorem c_X1_refresh (l : Launch) (K : Kx) (a d : Nat → Nat) {M M0 : Mem}   (h : f_X1_refresh M = some M0) : CMv l yX1_refresh cX1_refresh 2 ({ frames := 4, cells := 0, slots := 0, locals := 103 } : Room) K [.ref (a 43)] (wC K a d M) (fun _ => wC K a d M0) := by
  refine cs_v (by decide +kernel) (Nat.le_of_ble_eq_true rfl) ?_
  intro p e s m args below meth c A ls hF hr hk hnm hW hl
  have hx := hF.1
  have hb := hF.2.1
  have hl : lv_has ls 2 [(0, .ref (a 43))] := hl
  obtain ⟨H, hH⟩ : ∃ z, z = s.heap := ⟨_, rfl⟩
  rw [← hH] at hW ⊢
  have J21 : ∀ (n21 : Nat) (x1 : Int32) (M : Mem) (H : Heap) (locs : List Loc) (ls : Array Slot), f_X1_refresh_21 n21 x1 M = some M0 → Wd K A s (wC K a d M) H locs → lv_has ls 2 [(0, .ref (a 43)), (1, .int x1)] → W p l e ({ frames := 4, cells := 0, slots := 0, locals := 103 } : Room) s m args below meth c H locs 0 0 (EndV K A (fun _ => wC K a d M0) below args s ({ frames := 4, cells := 0, slots := 0, locals := 103 } : Room)) (F0 m 21 ls []) := by
    intro n21
    induction n21 with
    | zero => intro x1 M H locs ls h; exact absurd h (by simp [f_X1_refresh_21])
    | succ n21 ih21 =>
      intro x1 M H locs ls h hW hl
      rw [f_X1_refresh_21] at h
      refine lv_iload_n hx hb dX1_refresh_21 rfl (lv_at hl 1 rfl) ?_
      refine lv_aload_n hx hb dX1_refresh_22 rfl (lv_at hl 0 rfl) ?_
      refine g_X1_54 hF hW dX1_refresh_23 ?_
      refine g_X1_70 hF hW dX1_refresh_26 ?_
      refine lv_icmp_ge (tgt := 48) hx hb dX1_refresh_29 (by decide) (fun q8 => ?_) (fun q8 => ?_)
      · have h := ifp q8 h
        refine lv_aload_n hx hb dX1_refresh_48 rfl (lv_at hl 0 rfl) ?_
        refine lv_iconst (v := 1) hx hb dX1_refresh_49 (by decide) ?_
        refine s_X1_46 (x := true) hF hW dX1_refresh_50 (fun H locs hW => ?_)
        obtain rfl := Option.some.inj h
        exact rt_v hF hr hk (fun _ => 0) hW dX1_refresh_53
      · have h := ifn q8 h
        refine lv_aload_n hx hb dX1_refresh_32 rfl (lv_at hl 0 rfl) ?_
        refine lv_iload_n hx hb dX1_refresh_33 rfl (lv_at hl 1 rfl) ?_
        obtain ⟨M10, hc11, h⟩ := bm_some h
        refine cV_v (ci := 1) (q0 := 43) (rest := []) hF hW mw_X1_76 (c_X1_gather l K a d hc11) ⟨Nat.le_of_ble_eq_true rfl, Nat.le_of_ble_eq_true rfl⟩ rfl rfl (pC_43 K a d _) rfl hl.1 rfl (Nat.le_of_ble_eq_true rfl) dX1_refresh_34 ⟨Nat.le_of_ble_eq_true rfl, Nat.le_of_ble_eq_true rfl⟩ (fun _ H locs hW => ?_)
        refine lv_aload_n hx hb dX1_refresh_37 rfl (lv_at hl 0 rfl) ?_
        refine lv_iload_n hx hb dX1_refresh_38 rfl (lv_at hl 1 rfl) ?_
        obtain ⟨M13, hc14, h⟩ := bm_some h
        refine cV_v (ci := 1) (q0 := 43) (rest := []) hF hW mw_X1_80 (c_X1_link l K a d hc14) ⟨Nat.le_of_ble_eq_true rfl, Nat.le_of_ble_eq_true rfl⟩ rfl rfl (pC_43 K a d _) rfl hl.1 rfl (Nat.le_of_ble_eq_true rfl) dX1_refresh_39 ⟨Nat.le_of_ble_eq_true rfl, Nat.le_of_ble_eq_true rfl⟩ (fun _ H locs hW => ?_)
        refine lv_iinc (v := (x1 + 1)) (lv' := [(1, .int (x1 + 1)), (0, .ref (a 43))]) hx hb dX1_refresh_42 hl (k := 1) rfl rfl (by decide) rfl (fun ls hl => ?_)
        refine lv_goto (tgt := 21) hx hb dX1_refresh_45 (by decide) ?_
        exact ih21 (x1 + 1) _ _ _ _ h hW (lv_sub hl [1, 0] rfl)
  unfold f_X1_refresh at h
  refine lv_aload_n hx hb dX1_refresh_0 rfl (lv_at hl 0 rfl) ?_
  refine g_X1_46 hF hW dX1_refresh_1 ?_
  refine lz_eq (tgt := 8) hx hb dX1_refresh_4 (by decide) (fun q1 => ?_) (fun q1 => ?_)
  · have h := ifn q1 h
    refine lv_aload_n hx hb dX1_refresh_8 rfl (lv_at hl 0 rfl) ?_
    refine g_X1_58 hF hW dX1_refresh_9 ?_
    obtain ⟨M3, hc4, h⟩ := bm_some h
    refine cV_v (ci := 9) (q0 := 38) (rest := []) hF hW mw_X1_62 (c_X9_refresh l K a d hc4) ⟨Nat.le_of_ble_eq_true rfl, Nat.le_of_ble_eq_true rfl⟩ rfl rfl (pC_38 K a d _) rfl hl.1 rfl (Nat.le_of_ble_eq_true rfl) dX1_refresh_12 ⟨Nat.le_of_ble_eq_true rfl, Nat.le_of_ble_eq_true rfl⟩ (fun _ H locs hW => ?_)
    refine lv_aload_n hx hb dX1_refresh_15 rfl (lv_at hl 0 rfl) ?_
    obtain ⟨M6, hc7, h⟩ := bm_some h
    refine cV_v (ci := 1) (q0 := 43) (rest := []) hF hW mw_X1_67 (c_X1_clear l K a d hc7) ⟨Nat.le_of_ble_eq_true rfl, Nat.le_of_ble_eq_true rfl⟩ rfl rfl (pC_43 K a d _) rfl hl.1 rfl (Nat.le_of_ble_eq_true rfl) dX1_refresh_16 ⟨Nat.le_of_ble_eq_true rfl, Nat.le_of_ble_eq_true rfl⟩ (fun _ H locs hW => ?_)
    refine lv_iconst (v := 0) hx hb dX1_refresh_19 (by decide) ?_
    refine lv_istore_n (lv' := [(1, .int 0), (0, .ref (a 43))]) hx hb dX1_refresh_20 rfl hl (by decide) rfl (fun ls hl => ?_)
    exact J21 100000 0 _ _ _ _ h hW (lv_sub hl [1, 0] rfl)
  · have h := ifp q1 h
    obtain rfl := Option.some.inj h
    exact rt_v hF hr hk (fun _ => 0) hW dX1_refresh_7
