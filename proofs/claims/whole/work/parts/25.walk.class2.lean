set_option maxRecDepth 100000 in
set_option maxHeartbeats 1000000 in
theorem c_X11_fetchBy (l : Launch) (K : Kx) (a d : Nat → Nat) {M M0 : Mem} {x1 : Int32} {x2 : Int32} {x3 : Int32} {r0 : Int32} (h : f_X11_fetchBy M x1 x2 x3 = some (r0, M0)) : CMi l yX11_fetchBy cX11_fetchBy 6 (some .int) ({ frames := 2, cells := 0, slots := 0, locals := 49 } : Room) K [.ref (a 0), .int x1, .int x2, .int x3] (wC K a d M) (fun _ => wC K a d M0) r0 := by
  refine cs_i (by decide +kernel) (Nat.le_of_ble_eq_true rfl) ?_
  intro p e s m args below meth c A ls hF hr hk hnm hW hl
  have hx := hF.1
  have hb := hF.2.1
  have hl : lv_has ls 6 [(0, .ref (a 0)), (1, .int x1), (2, .int x2), (3, .int x3)] := hl
  obtain ⟨H, hH⟩ : ∃ z, z = s.heap := ⟨_, rfl⟩
  rw [← hH] at hW ⊢
  unfold f_X11_fetchBy at h
  refine lv_aload_n hx hb dX11_fetchBy_0 rfl (lv_at hl 0 rfl) ?_
  refine g_X11_63 hF hW dX11_fetchBy_1 ?_
  refine lv_iload_n hx hb dX11_fetchBy_4 rfl (lv_at hl 1 rfl) ?_
  refine lv_iload_n hx hb dX11_fetchBy_5 rfl (lv_at hl 2 rfl) ?_
  obtain ⟨r1, hc3, h⟩ := bq_some h
  refine cV_i (ci := 9) (q0 := 38) (rest := []) hF hW mw_X11_463 (c_X9_arrayAt l K a d hc3) ⟨Nat.le_of_ble_eq_true rfl, Nat.le_of_ble_eq_true rfl⟩ rfl rfl (pC_38 K a d _) rfl hl.1 rfl (Nat.le_of_ble_eq_true rfl) dX11_fetchBy_6 ⟨Nat.le_of_ble_eq_true rfl, Nat.le_of_ble_eq_true rfl⟩ (fun _ H locs hW => ?_)
  refine lv_istore (lv' := [(4, .int r1), (0, .ref (a 0)), (1, .int x1), (2, .int x2), (3, .int x3)]) hx hb dX11_fetchBy_9 hl (by decide) rfl (fun ls hl => ?_)
  refine lv_iload hx hb dX11_fetchBy_11 (lv_at hl 0 rfl) ?_
  refine lv_if_lt (tgt := 20) hx hb dX11_fetchBy_13 (by decide) (fun q4 => ?_) (fun q4 => ?_)
  · have h := ifp q4 h
    refine lv_iconst (v := 0) hx hb dX11_fetchBy_20 (by decide) ?_
    obtain ⟨rfl, rfl⟩ := Prod.mk.inj (Option.some.inj h)
    exact rt_i hF hr hk rfl (fun _ => 0) hW rfl dX11_fetchBy_21
  · have h := ifn q4 h
    refine lv_iload_n hx hb dX11_fetchBy_16 rfl (lv_at hl 4 rfl) ?_
    refine lv_if_gt (tgt := 22) hx hb dX11_fetchBy_17 (by decide) (fun q5 => ?_) (fun q5 => ?_)
    · have h := ifp q5 h
      refine lv_iload_n hx hb dX11_fetchBy_22 rfl (lv_at hl 2 rfl) ?_
      refine lv_iconst (v := 3) hx hb dX11_fetchBy_23 (by decide) ?_
      refine lv_imul hx hb dX11_fetchBy_24 ?_
      refine lv_iload_n hx hb dX11_fetchBy_25 rfl (lv_at hl 3 rfl) ?_
      refine lv_iadd hx hb dX11_fetchBy_26 ?_
      refine lv_istore (lv' := [(5, .int ((x1 * 3) + x2)), (4, .int r1), (0, .ref (a 0)), (1, .int x1), (2, .int x2), (3, .int x3)]) hx hb dX11_fetchBy_27 hl (by decide) rfl (fun ls hl => ?_)
      refine lv_aload_n hx hb dX11_fetchBy_29 rfl (lv_at hl 2 rfl) ?_
      refine g_X11_88 hF hW dX11_fetchBy_30 ?_
      refine lv_iload hx hb dX11_fetchBy_33 (lv_at hl 1 rfl) ?_
      refine lv_aload_n hx hb dX11_fetchBy_35 rfl (lv_at hl 2 rfl) ?_
      refine g_X11_63 hF hW dX11_fetchBy_36 ?_
      refine g_X11_466 hF hW dX11_fetchBy_39 ?_
      refine lv_iload hx hb dX11_fetchBy_42 (lv_at hl 0 rfl) ?_
      obtain ⟨q6, h⟩ := ck_some h
      refine w_lld hF hW (pC_39 K a d _) q6 dX11_fetchBy_44 ?_
      refine lv_aload_n hx hb dX11_fetchBy_45 rfl (lv_at hl 2 rfl) ?_
      refine g_X11_63 hF hW dX11_fetchBy_46 ?_
      refine g_X11_469 hF hW dX11_fetchBy_49 ?_
      refine lv_iload hx hb dX11_fetchBy_52 (lv_at hl 0 rfl) ?_
      obtain ⟨q7, h⟩ := ck_some h
      refine w_lld hF hW (pC_40 K a d _) q7 dX11_fetchBy_54 ?_
      refine lv_iload_n hx hb dX11_fetchBy_55 rfl (lv_at hl 5 rfl) ?_
      refine lv_i2l hx hb dX11_fetchBy_56 rfl ?_
      obtain ⟨r8, hc10, h⟩ := bq_some h
      refine cS_l (rest := [.long (M.2.1 39 ((x1 * 3) + x2).toNatClampNeg), .int r1, .ref (a 63)]) hF hW mw_X11_485 (c_J9_floorDiv_f86c9 l K hc10) ⟨Nat.le_of_ble_eq_true rfl, Nat.le_of_ble_eq_true rfl⟩ rfl hl.1 rfl (Nat.le_of_ble_eq_true rfl) dX11_fetchBy_57 ⟨Nat.le_of_ble_eq_true rfl, Nat.le_of_ble_eq_true rfl⟩ (fun _ H locs hW => ?_)
      obtain ⟨r11, M12, hc13, h⟩ := bd_some h
      refine cV_i (ci := 6) (q0 := 63) (rest := []) hF hW mw_X11_491 (c_X6_bring l K a d hc13) ⟨Nat.le_of_ble_eq_true rfl, Nat.le_of_ble_eq_true rfl⟩ rfl rfl (pC_63 K a d _) rfl hl.1 rfl (Nat.le_of_ble_eq_true rfl) dX11_fetchBy_60 ⟨Nat.le_of_ble_eq_true rfl, Nat.le_of_ble_eq_true rfl⟩ (fun _ H locs hW => ?_)
      refine lz_eq (tgt := 70) hx hb dX11_fetchBy_63 (by decide) (fun q14 => ?_) (fun q14 => ?_)
      · have h := ifn q14 h
        refine lv_iconst (v := 0) hx hb dX11_fetchBy_70 (by decide) ?_
        obtain ⟨rfl, rfl⟩ := Prod.mk.inj (Option.some.inj h)
        exact rt_i hF hr hk rfl (fun _ => 0) hW rfl dX11_fetchBy_71
      · have h := ifp q14 h
        refine lv_iconst (v := 1) hx hb dX11_fetchBy_66 (by decide) ?_
        refine lv_goto (tgt := 71) hx hb dX11_fetchBy_67 (by decide) ?_
        obtain ⟨rfl, rfl⟩ := Prod.mk.inj (Option.some.inj h)
        exact rt_i hF hr hk rfl (fun _ => 0) hW rfl dX11_fetchBy_71
    · have h := ifn q5 h
      refine lv_iconst (v := 0) hx hb dX11_fetchBy_20 (by decide) ?_
      obtain ⟨rfl, rfl⟩ := Prod.mk.inj (Option.some.inj h)
      exact rt_i hF hr hk rfl (fun _ => 0) hW rfl dX11_fetchBy_21
set_option maxRecDepth 100000 in
set_option maxHeartbeats 1000000 in
theorem c_X11_choicesOf (l : Launch) (K : Kx) (a d : Nat → Nat) {M : Mem} {x1 : Int32} {r0 : Int32} (h : f_X11_choicesOf M x1 = some r0) : CMi l yX11_choicesOf cX11_choicesOf 2 (some .int) ({ frames := 0, cells := 0, slots := 0, locals := 0 } : Room) K [.ref (a 0), .int x1] (wC K a d M) (fun _ => wC K a d M) r0 := by
  refine cs_i (by decide +kernel) (Nat.le_of_ble_eq_true rfl) ?_
  intro p e s m args below meth c A ls hF hr hk hnm hW hl
  have hx := hF.1
  have hb := hF.2.1
  have hl : lv_has ls 2 [(0, .ref (a 0)), (1, .int x1)] := hl
  obtain ⟨H, hH⟩ : ∃ z, z = s.heap := ⟨_, rfl⟩
  rw [← hH] at hW ⊢
  unfold f_X11_choicesOf at h
  refine lv_iconst (v := 4) hx hb dX11_choicesOf_0 (by decide) ?_
  refine lv_aload_n hx hb dX11_choicesOf_1 rfl (lv_at hl 0 rfl) ?_
  refine g_X11_19 hF hW dX11_choicesOf_2 ?_
  refine g_X11_166 hF hW dX11_choicesOf_5 ?_
  refine lv_iload_n hx hb dX11_choicesOf_8 rfl (lv_at hl 1 rfl) ?_
  obtain ⟨q1, h⟩ := ck_some h
  refine w_ild hF hW (pC_11 K a d _) q1 dX11_choicesOf_9 ?_
  refine lv_isub hx hb dX11_choicesOf_10 ?_
  refine lv_iconst (v := 1) hx hb dX11_choicesOf_11 (by decide) ?_
  refine lv_iadd hx hb dX11_choicesOf_12 ?_
  obtain rfl := Option.some.inj h
  exact rt_i hF hr hk rfl (fun _ => 0) hW rfl dX11_choicesOf_13
set_option maxRecDepth 100000 in
set_option maxHeartbeats 1000000 in
theorem c_X11_tellLine (l : Launch) (K : Kx) (a d : Nat → Nat) {M : Mem} {x1 : Int32} {x2 : Int32} {r0 : Int64} (h : f_X11_tellLine M x1 x2 = some r0) : CMl l yX11_tellLine cX11_tellLine 7 ({ frames := 1, cells := 0, slots := 0, locals := 22 } : Room) K [.ref (a 0), .int x1, .int x2] (wC K a d M) (fun _ => wC K a d M) r0 := by
  refine cs_l (by decide +kernel) (Nat.le_of_ble_eq_true rfl) ?_
  intro p e s m args below meth c A ls hF hr hk hnm hW hl
  have hx := hF.1
  have hb := hF.2.1
  have hl : lv_has ls 7 [(0, .ref (a 0)), (1, .int x1), (2, .int x2)] := hl
  obtain ⟨H, hH⟩ : ∃ z, z = s.heap := ⟨_, rfl⟩
  rw [← hH] at hW ⊢
  unfold f_X11_tellLine at h
  refine lv_aload_n hx hb dX11_tellLine_0 rfl (lv_at hl 0 rfl) ?_
  refine g_X11_81 hF hW dX11_tellLine_1 ?_
  refine g_X11_501 hF hW dX11_tellLine_4 ?_
  refine lv_iload_n hx hb dX11_tellLine_7 rfl (lv_at hl 1 rfl) ?_
  obtain ⟨q1, h⟩ := ck_some h
  refine w_ild hF hW (pC_62 K a d _) q1 dX11_tellLine_8 ?_
  refine lv_istore_n (lv' := [(3, .int (M.1 62 x1.toNatClampNeg)), (0, .ref (a 0)), (1, .int x1), (2, .int x2)]) hx hb dX11_tellLine_9 rfl hl (by decide) rfl (fun ls hl => ?_)
  refine lv_aload_n hx hb dX11_tellLine_10 rfl (lv_at hl 1 rfl) ?_
  refine g_X11_81 hF hW dX11_tellLine_11 ?_
  refine g_X11_501 hF hW dX11_tellLine_14 ?_
  refine lv_iload_n hx hb dX11_tellLine_17 rfl (lv_at hl 2 rfl) ?_
  refine lv_iconst (v := 1) hx hb dX11_tellLine_18 (by decide) ?_
  refine lv_iadd hx hb dX11_tellLine_19 ?_
  obtain ⟨q2, h⟩ := ck_some h
  refine w_ild hF hW (pC_62 K a d _) q2 dX11_tellLine_20 ?_
  refine lv_iload_n hx hb dX11_tellLine_21 rfl (lv_at hl 0 rfl) ?_
  refine lv_isub hx hb dX11_tellLine_22 ?_
  refine lv_istore (lv' := [(4, .int ((M.1 62 (x1 + 1).toNatClampNeg) - (M.1 62 x1.toNatClampNeg))), (3, .int (M.1 62 x1.toNatClampNeg)), (0, .ref (a 0)), (1, .int x1), (2, .int x2)]) hx hb dX11_tellLine_23 hl (by decide) rfl (fun ls hl => ?_)
  refine lv_aload_n hx hb dX11_tellLine_25 rfl (lv_at hl 2 rfl) ?_
  refine g_X11_81 hF hW dX11_tellLine_26 ?_
  refine g_X11_451 hF hW dX11_tellLine_29 ?_
  refine lv_iload_n hx hb dX11_tellLine_32 rfl (lv_at hl 1 rfl) ?_
  obtain ⟨q3, h⟩ := ck_some h
  refine w_ild hF hW (pC_57 K a d _) q3 dX11_tellLine_33 ?_
  refine lv_istore (lv' := [(5, .int (M.1 57 (M.1 62 x1.toNatClampNeg).toNatClampNeg)), (4, .int ((M.1 62 (x1 + 1).toNatClampNeg) - (M.1 62 x1.toNatClampNeg))), (3, .int (M.1 62 x1.toNatClampNeg)), (0, .ref (a 0)), (1, .int x1), (2, .int x2)]) hx hb dX11_tellLine_34 hl (by decide) rfl (fun ls hl => ?_)
  refine lv_iload_n hx hb dX11_tellLine_36 rfl (lv_at hl 5 rfl) ?_
  refine lv_if_ne (tgt := 51) hx hb dX11_tellLine_37 (by decide) (fun q4 => ?_) (fun q4 => ?_)
  · have h := ifn q4 h
    refine lv_iload_n hx hb dX11_tellLine_51 rfl (lv_at hl 5 rfl) ?_
    refine lv_bipush (v := 9) hx hb dX11_tellLine_52 (by decide) ?_
    refine lv_icmp_ne (tgt := 61) hx hb dX11_tellLine_54 (by decide) (fun q5 => ?_) (fun q5 => ?_)
    · have h := ifn q5 h
      refine lv_iload_n hx hb dX11_tellLine_61 rfl (lv_at hl 5 rfl) ?_
      refine lv_iconst (v := 4) hx hb dX11_tellLine_62 (by decide) ?_
      refine lv_icmp_gt (tgt := 79) hx hb dX11_tellLine_63 (by decide) (fun q6 => ?_) (fun q6 => ?_)
      · have h := ifp q6 h
        refine lv_iload hx hb dX11_tellLine_79 (lv_at hl 1 rfl) ?_
        refine lv_iconst (v := 2) hx hb dX11_tellLine_81 (by decide) ?_
        refine lv_icmp_ge (tgt := 87) hx hb dX11_tellLine_82 (by decide) (fun q7 => ?_) (fun q7 => ?_)
        · have h := ifp q7 h
          refine lv_iload_n hx hb dX11_tellLine_87 rfl (lv_at hl 5 rfl) ?_
          refine lv_iconst (v := 4) hx hb dX11_tellLine_88 (by decide) ?_
          refine lv_isub hx hb dX11_tellLine_89 ?_
          refine lv_iconst (v := 1) hx hb dX11_tellLine_90 (by decide) ?_
          refine lv_isub hx hb dX11_tellLine_91 ?_
          refine lv_istore (lv' := [(6, .int ((x2 - 4) - 1)), (5, .int (M.1 57 (M.1 62 x1.toNatClampNeg).toNatClampNeg)), (4, .int ((M.1 62 (x1 + 1).toNatClampNeg) - (M.1 62 x1.toNatClampNeg))), (3, .int (M.1 62 x1.toNatClampNeg)), (0, .ref (a 0)), (1, .int x1), (2, .int x2)]) hx hb dX11_tellLine_92 hl (by decide) rfl (fun ls hl => ?_)
          refine lv_aload_n hx hb dX11_tellLine_94 rfl (lv_at hl 4 rfl) ?_
          refine g_X11_54 hF hW dX11_tellLine_95 ?_
          refine lv_aload_n hx hb dX11_tellLine_98 rfl (lv_at hl 4 rfl) ?_
          refine g_X11_81 hF hW dX11_tellLine_99 ?_
          refine g_X11_451 hF hW dX11_tellLine_102 ?_
          refine lv_iload_n hx hb dX11_tellLine_105 rfl (lv_at hl 3 rfl) ?_
          refine lv_iconst (v := 1) hx hb dX11_tellLine_106 (by decide) ?_
          refine lv_iadd hx hb dX11_tellLine_107 ?_
          obtain ⟨q8, h⟩ := ck_some h
          refine w_ild hF hW (pC_57 K a d _) q8 dX11_tellLine_108 ?_
          refine lv_iload hx hb dX11_tellLine_109 (lv_at hl 0 rfl) ?_
          obtain ⟨r9, hc11, h⟩ := bq_some h
          refine cV_l (ci := 0) (q0 := 34) (rest := []) hF hW mw_X11_258 (c_X0_letter l K a d hc11) ⟨Nat.le_of_ble_eq_true rfl, Nat.le_of_ble_eq_true rfl⟩ rfl rfl (pC_34 K a d _) rfl hl.1 rfl (Nat.le_of_ble_eq_true rfl) dX11_tellLine_111 ⟨Nat.le_of_ble_eq_true rfl, Nat.le_of_ble_eq_true rfl⟩ (fun _ H locs hW => ?_)
          refine lv_aload_n hx hb dX11_tellLine_114 rfl (lv_at hl 4 rfl) ?_
          refine g_X11_54 hF hW dX11_tellLine_115 ?_
          refine lv_iload hx hb dX11_tellLine_118 (lv_at hl 1 rfl) ?_
          refine lv_iload hx hb dX11_tellLine_120 (lv_at hl 0 rfl) ?_
          obtain ⟨r12, hc14, h⟩ := bq_some h
          refine cV_l (ci := 0) (q0 := 34) (rest := [.long r9]) hF hW mw_X11_258 (c_X0_letter l K a d hc14) ⟨Nat.le_of_ble_eq_true rfl, Nat.le_of_ble_eq_true rfl⟩ rfl rfl (pC_34 K a d _) rfl hl.1 rfl (Nat.le_of_ble_eq_true rfl) dX11_tellLine_122 ⟨Nat.le_of_ble_eq_true rfl, Nat.le_of_ble_eq_true rfl⟩ (fun _ H locs hW => ?_)
          refine lv_lsub hx hb dX11_tellLine_125 ?_
          obtain rfl := Option.some.inj h
          exact rt_l hF hr hk (fun _ => 0) hW rfl dX11_tellLine_126
        · have h := ifn q7 h
          refine lv_lconst (v := 0) hx hb dX11_tellLine_85 (by decide) ?_
          obtain rfl := Option.some.inj h
          exact rt_l hF hr hk (fun _ => 0) hW rfl dX11_tellLine_86
      · have h := ifn q6 h
        refine lv_aload_n hx hb dX11_tellLine_66 rfl (lv_at hl 3 rfl) ?_
        refine g_X11_54 hF hW dX11_tellLine_67 ?_
        refine lv_iload hx hb dX11_tellLine_70 (lv_at hl 0 rfl) ?_
        refine lv_iload_n hx hb dX11_tellLine_72 rfl (lv_at hl 5 rfl) ?_
        refine lv_iconst (v := 1) hx hb dX11_tellLine_73 (by decide) ?_
        refine lv_isub hx hb dX11_tellLine_74 ?_
        obtain ⟨r15, hc17, h⟩ := bq_some h
        refine cV_l (ci := 0) (q0 := 34) (rest := []) hF hW mw_X11_258 (c_X0_letter l K a d hc17) ⟨Nat.le_of_ble_eq_true rfl, Nat.le_of_ble_eq_true rfl⟩ rfl rfl (pC_34 K a d _) rfl hl.1 rfl (Nat.le_of_ble_eq_true rfl) dX11_tellLine_75 ⟨Nat.le_of_ble_eq_true rfl, Nat.le_of_ble_eq_true rfl⟩ (fun _ H locs hW => ?_)
        obtain rfl := Option.some.inj h
        exact rt_l hF hr hk (fun _ => 0) hW rfl dX11_tellLine_78
    · have h := ifp q5 h
      refine lv_iload hx hb dX11_tellLine_57 (lv_at hl 1 rfl) ?_
      refine lv_i2l hx hb dX11_tellLine_59 rfl ?_
      obtain rfl := Option.some.inj h
      exact rt_l hF hr hk (fun _ => 0) hW rfl dX11_tellLine_60
  · have h := ifp q4 h
    refine lv_aload_n hx hb dX11_tellLine_40 rfl (lv_at hl 3 rfl) ?_
    refine g_X11_54 hF hW dX11_tellLine_41 ?_
    refine lv_iload hx hb dX11_tellLine_44 (lv_at hl 0 rfl) ?_
    obtain ⟨r18, hc20, h⟩ := bq_some h
    refine cV_i (ci := 0) (q0 := 34) (rest := []) hF hW mw_X11_253 (c_X0_actNode l K a d hc20) ⟨Nat.le_of_ble_eq_true rfl, Nat.le_of_ble_eq_true rfl⟩ rfl rfl (pC_34 K a d _) rfl hl.1 rfl (Nat.le_of_ble_eq_true rfl) dX11_tellLine_46 ⟨Nat.le_of_ble_eq_true rfl, Nat.le_of_ble_eq_true rfl⟩ (fun _ H locs hW => ?_)
    refine lv_i2l hx hb dX11_tellLine_49 rfl ?_
    obtain rfl := Option.some.inj h
    exact rt_l hF hr hk (fun _ => 0) hW rfl dX11_tellLine_50
set_option maxRecDepth 100000 in
set_option maxHeartbeats 1000000 in
theorem c_X0_passes (l : Launch) (K : Kx) (a d : Nat → Nat) {M : Mem} {x1 : Int32} {r0 : Bool} (h : f_X0_passes M x1 = some r0) : CMi l yX0_passes cX0_passes 5 (some .boolean) ({ frames := 1, cells := 0, slots := 0, locals := 27 } : Room) K [.ref (a 34), .int x1] (wC K a d M) (fun _ => wC K a d M) (bI r0) := by
  refine cs_i (by decide +kernel) (Nat.le_of_ble_eq_true rfl) ?_
  intro p e s m args below meth c A ls hF hr hk hnm hW hl
  have hx := hF.1
  have hb := hF.2.1
  have hl : lv_has ls 5 [(0, .ref (a 34)), (1, .int x1)] := hl
  obtain ⟨H, hH⟩ : ∃ z, z = s.heap := ⟨_, rfl⟩
  rw [← hH] at hW ⊢
  unfold f_X0_passes at h
  refine lv_aload_n hx hb dX0_passes_0 rfl (lv_at hl 0 rfl) ?_
  refine g_X0_36 hF hW dX0_passes_1 ?_
  refine lv_aload_n hx hb dX0_passes_4 rfl (lv_at hl 0 rfl) ?_
  refine g_X0_40 hF hW dX0_passes_5 ?_
  refine g_X0_85 hF hW dX0_passes_8 ?_
  refine lv_iload_n hx hb dX0_passes_11 rfl (lv_at hl 1 rfl) ?_
  obtain ⟨q1, h⟩ := ck_some h
  refine w_ild hF hW (pC_12 K a d _) q1 dX0_passes_12 ?_
  refine lv_aload_n hx hb dX0_passes_13 rfl (lv_at hl 0 rfl) ?_
  refine g_X0_19 hF hW dX0_passes_14 ?_
  refine lv_iconst (v := 0) hx hb dX0_passes_17 (by decide) ?_
  obtain ⟨r2, hc4, h⟩ := bq_some h
  refine cV_l (ci := 8) (q0 := 1) (rest := []) hF hW mw_X0_88 (c_X8_reckon_h l K a d hc4) ⟨Nat.le_of_ble_eq_true rfl, Nat.le_of_ble_eq_true rfl⟩ rfl rfl (pC_1 K a d _) rfl hl.1 rfl (Nat.le_of_ble_eq_true rfl) dX0_passes_18 ⟨Nat.le_of_ble_eq_true rfl, Nat.le_of_ble_eq_true rfl⟩ (fun _ H locs hW => ?_)
  refine lv_lstore_n (lv' := [(2, .long r2), (0, .ref (a 34)), (1, .int x1)]) hx hb dX0_passes_21 rfl hl (by decide) rfl (fun ls hl => ?_)
  refine lv_aload_n hx hb dX0_passes_22 rfl (lv_at hl 1 rfl) ?_
  refine g_X0_40 hF hW dX0_passes_23 ?_
  refine g_X0_94 hF hW dX0_passes_26 ?_
  refine lv_iload_n hx hb dX0_passes_29 rfl (lv_at hl 2 rfl) ?_
  obtain ⟨q5, h⟩ := ck_some h
  refine w_ild hF hW (pC_13 K a d _) q5 dX0_passes_30 ?_
  refine lv_istore (lv' := [(4, .int (M.1 13 x1.toNatClampNeg)), (2, .long r2), (0, .ref (a 34)), (1, .int x1)]) hx hb dX0_passes_31 hl (by decide) rfl (fun ls hl => ?_)
  refine lv_iload hx hb dX0_passes_33 (lv_at hl 0 rfl) ?_
  refine lv_if_gt (tgt := 52) hx hb dX0_passes_35 (by decide) (fun q6 => ?_) (fun q6 => ?_)
  · have h := ifp q6 h
    refine lv_lload_n hx hb dX0_passes_52 rfl (lv_at hl 1 rfl) ?_
    refine lv_iload hx hb dX0_passes_53 (lv_at hl 0 rfl) ?_
    refine lv_i2l hx hb dX0_passes_55 rfl ?_
    obtain ⟨q7, h⟩ := nzL_some h
    refine lv_lrem hx hb dX0_passes_56 q7 ?_
    refine lv_lconst (v := 0) hx hb dX0_passes_57 (by decide) ?_
    refine ll_ne (tgt := 66) hx hb dX0_passes_58 dX0_passes_59 (by decide) (fun q8 => ?_) (fun q8 => ?_)
    · have h := ifn q8 h
      refine lv_iconst (v := 0) hx hb dX0_passes_66 (by decide) ?_
      obtain rfl := Option.some.inj h
      exact rt_i hF hr hk (bI_n false) (fun _ => 0) hW rfl dX0_passes_67
    · have h := ifp q8 h
      refine lv_iconst (v := 1) hx hb dX0_passes_62 (by decide) ?_
      refine lv_goto (tgt := 67) hx hb dX0_passes_63 (by decide) ?_
      obtain rfl := Option.some.inj h
      exact rt_i hF hr hk (bI_n true) (fun _ => 0) hW rfl dX0_passes_67
  · have h := ifn q6 h
    refine lv_lload_n hx hb dX0_passes_38 rfl (lv_at hl 1 rfl) ?_
    refine lv_lconst (v := 0) hx hb dX0_passes_39 (by decide) ?_
    refine ll_lt (tgt := 48) hx hb dX0_passes_40 dX0_passes_41 (by decide) (fun q9 => ?_) (fun q9 => ?_)
    · have h := ifp q9 h
      refine lv_iconst (v := 0) hx hb dX0_passes_48 (by decide) ?_
      refine lv_goto (tgt := 67) hx hb dX0_passes_49 (by decide) ?_
      obtain rfl := Option.some.inj h
      exact rt_i hF hr hk (bI_n false) (fun _ => 0) hW rfl dX0_passes_67
    · have h := ifn q9 h
      refine lv_iconst (v := 1) hx hb dX0_passes_44 (by decide) ?_
      refine lv_goto (tgt := 67) hx hb dX0_passes_45 (by decide) ?_
      obtain rfl := Option.some.inj h
      exact rt_i hF hr hk (bI_n true) (fun _ => 0) hW rfl dX0_passes_67
set_option maxRecDepth 100000 in
set_option maxHeartbeats 1000000 in
theorem c_X1_clear (l : Launch) (K : Kx) (a d : Nat → Nat) {M M0 : Mem}   (h : f_X1_clear M = some M0) : CMv l yX1_clear cX1_clear 3 ({ frames := 2, cells := 0, slots := 0, locals := 64 } : Room) K [.ref (a 43)] (wC K a d M) (fun _ => wC K a d M0) := by
  refine cs_v (by decide +kernel) (Nat.le_of_ble_eq_true rfl) ?_
  intro p e s m args below meth c A ls hF hr hk hnm hW hl
  have hx := hF.1
  have hb := hF.2.1
  have hl : lv_has ls 3 [(0, .ref (a 43))] := hl
  obtain ⟨H, hH⟩ : ∃ z, z = s.heap := ⟨_, rfl⟩
  rw [← hH] at hW ⊢
  have J68 : ∀ (n68 : Nat) (x1 : Int32) (M : Mem) (H : Heap) (locs : List Loc) (ls : Array Slot), f_X1_clear_68 n68 x1 M = some M0 → Wd K A s (wC K a d M) H locs → lv_has ls 3 [(0, .ref (a 43)), (1, .int x1)] → W p l e ({ frames := 2, cells := 0, slots := 0, locals := 64 } : Room) s m args below meth c H locs 0 0 (EndV K A (fun _ => wC K a d M0) below args s ({ frames := 2, cells := 0, slots := 0, locals := 64 } : Room)) (F0 m 68 ls []) := by
    intro n68
    induction n68 with
    | zero => intro x1 M H locs ls h; exact absurd h (by simp [f_X1_clear_68])
    | succ n68 ih68 =>
      have J81 : ∀ (n81 : Nat) (x1 : Int32) (x2 : Int32) (M : Mem) (H : Heap) (locs : List Loc) (ls : Array Slot), f_X1_clear_81 (f_X1_clear_68 n68) n81 x1 x2 M = some M0 → Wd K A s (wC K a d M) H locs → lv_has ls 3 [(0, .ref (a 43)), (1, .int x1), (2, .int x2)] → W p l e ({ frames := 2, cells := 0, slots := 0, locals := 64 } : Room) s m args below meth c H locs 0 0 (EndV K A (fun _ => wC K a d M0) below args s ({ frames := 2, cells := 0, slots := 0, locals := 64 } : Room)) (F0 m 81 ls []) := by
        intro n81
        induction n81 with
        | zero => intro x1 x2 M H locs ls h; exact absurd h (by simp [f_X1_clear_81])
        | succ n81 ih81 =>
          intro x1 x2 M H locs ls h hW hl
          rw [f_X1_clear_81] at h
          refine lv_iload_n hx hb dX1_clear_81 rfl (lv_at hl 2 rfl) ?_
          refine lv_aload_n hx hb dX1_clear_82 rfl (lv_at hl 0 rfl) ?_
          refine g_X1_50 hF hW dX1_clear_83 ?_
          refine g_X1_95 hF hW dX1_clear_86 ?_
          refine lv_icmp_ge (tgt := 134) hx hb dX1_clear_89 (by decide) (fun q4 => ?_) (fun q4 => ?_)
          · have h := ifp q4 h
            refine lv_iinc (v := (x1 + 1)) (lv' := [(1, .int (x1 + 1)), (0, .ref (a 43)), (2, .int x2)]) hx hb dX1_clear_134 hl (k := 1) rfl rfl (by decide) rfl (fun ls hl => ?_)
            refine lv_goto (tgt := 68) hx hb dX1_clear_137 (by decide) ?_
            exact ih68 (x1 + 1) _ _ _ _ h hW (lv_sub hl [1, 0] rfl)
          · have h := ifn q4 h
            refine lv_aload_n hx hb dX1_clear_92 rfl (lv_at hl 0 rfl) ?_
            refine g_X1_24 hF hW dX1_clear_93 ?_
            refine lv_iload_n hx hb dX1_clear_96 rfl (lv_at hl 1 rfl) ?_
            refine lv_bipush (v := 12) hx hb dX1_clear_97 (by decide) ?_
            refine lv_imul hx hb dX1_clear_99 ?_
            refine lv_iload_n hx hb dX1_clear_100 rfl (lv_at hl 2 rfl) ?_
            refine lv_iadd hx hb dX1_clear_101 ?_
            refine lv_aload_n hx hb dX1_clear_102 rfl (lv_at hl 0 rfl) ?_
            refine g_X1_50 hF hW dX1_clear_103 ?_
            refine lv_aload_n hx hb dX1_clear_106 rfl (lv_at hl 0 rfl) ?_
            refine g_X1_50 hF hW dX1_clear_107 ?_
            refine g_X1_100 hF hW dX1_clear_110 ?_
            refine lv_iload_n hx hb dX1_clear_113 rfl (lv_at hl 1 rfl) ?_
            obtain ⟨q5, h⟩ := ck_some h
            refine w_ild hF hW (pC_16 K a d _) q5 dX1_clear_114 ?_
            refine lv_aload_n hx hb dX1_clear_115 rfl (lv_at hl 0 rfl) ?_
            refine g_X1_50 hF hW dX1_clear_116 ?_
            refine g_X1_100 hF hW dX1_clear_119 ?_
            refine lv_iload_n hx hb dX1_clear_122 rfl (lv_at hl 2 rfl) ?_
            obtain ⟨q6, h⟩ := ck_some h
            refine w_ild hF hW (pC_16 K a d _) q6 dX1_clear_123 ?_
            obtain ⟨r7, hc9, h⟩ := bq_some h
            refine cV_i (ci := 2) (q0 := 5) (rest := [.int ((x1 * 12) + x2), .ref (a 48)]) hF hW mw_X1_103 (c_X2_common l K a d hc9) ⟨Nat.le_of_ble_eq_true rfl, Nat.le_of_ble_eq_true rfl⟩ rfl rfl (pC_5 K a d _) rfl hl.1 rfl (Nat.le_of_ble_eq_true rfl) dX1_clear_124 ⟨Nat.le_of_ble_eq_true rfl, Nat.le_of_ble_eq_true rfl⟩ (fun _ H locs hW => ?_)
            obtain ⟨q10, h⟩ := ck_some h
            refine w_ist hF hW (pC_48 K a d _) q10 (uC_48 K a d _ _ _) dX1_clear_127 (fun H locs hW => ?_)
            refine lv_iinc (v := (x2 + 1)) (lv' := [(2, .int (x2 + 1)), (0, .ref (a 43)), (1, .int x1)]) hx hb dX1_clear_128 hl (k := 2) rfl rfl (by decide) rfl (fun ls hl => ?_)
            refine lv_goto (tgt := 81) hx hb dX1_clear_131 (by decide) ?_
            exact ih81 x1 (x2 + 1) _ _ _ _ h hW (lv_sub hl [1, 2, 0] rfl)
      intro x1 M H locs ls h hW hl
      rw [f_X1_clear_68] at h
      refine lv_iload_n hx hb dX1_clear_68 rfl (lv_at hl 1 rfl) ?_
      refine lv_aload_n hx hb dX1_clear_69 rfl (lv_at hl 0 rfl) ?_
      refine g_X1_50 hF hW dX1_clear_70 ?_
      refine g_X1_95 hF hW dX1_clear_73 ?_
      refine lv_icmp_ge (tgt := 140) hx hb dX1_clear_76 (by decide) (fun q3 => ?_) (fun q3 => ?_)
      · have h := ifp q3 h
        obtain rfl := Option.some.inj h
        exact rt_v hF hr hk (fun _ => 0) hW dX1_clear_140
      · have h := ifn q3 h
        refine lv_iconst (v := 0) hx hb dX1_clear_79 (by decide) ?_
        refine lv_istore_n (lv' := [(2, .int 0), (0, .ref (a 43)), (1, .int x1)]) hx hb dX1_clear_80 rfl hl (by decide) rfl (fun ls hl => ?_)
        exact J81 100000 x1 0 _ _ _ _ h hW (lv_sub hl [1, 2, 0] rfl)
  unfold f_X1_clear at h
  refine lv_aload_n hx hb dX1_clear_0 rfl (lv_at hl 0 rfl) ?_
  refine g_X1_9 hF hW dX1_clear_1 ?_
  refine lv_iconst (v := 0) hx hb dX1_clear_4 (by decide) ?_
  refine cS_v (rest := []) hF hW mw_X1_83 (c_fillI_a l K (pC_44 K a d _) (by decide)) ⟨Nat.le_of_ble_eq_true rfl, Nat.le_of_ble_eq_true rfl⟩ rfl hl.1 rfl (Nat.le_of_ble_eq_true rfl) dX1_clear_5 ⟨Nat.le_of_ble_eq_true rfl, Nat.le_of_ble_eq_true rfl⟩ (fun _ H locs hW => ?_)
  have hW : Wd K A s (wC K a d (fI M 44 0 432 0)) H locs := hW
  refine lv_aload_n hx hb dX1_clear_8 rfl (lv_at hl 0 rfl) ?_
  refine g_X1_15 hF hW dX1_clear_9 ?_
  refine lv_iconst (v := 0) hx hb dX1_clear_12 (by decide) ?_
  refine cS_v (rest := []) hF hW mw_X1_83 (c_fillI_a l K (pC_45 K a d _) (by decide)) ⟨Nat.le_of_ble_eq_true rfl, Nat.le_of_ble_eq_true rfl⟩ rfl hl.1 rfl (Nat.le_of_ble_eq_true rfl) dX1_clear_13 ⟨Nat.le_of_ble_eq_true rfl, Nat.le_of_ble_eq_true rfl⟩ (fun _ H locs hW => ?_)
  have hW : Wd K A s (wC K a d (fI (fI M 44 0 432 0) 45 0 5 0)) H locs := hW
  refine lv_aload_n hx hb dX1_clear_16 rfl (lv_at hl 0 rfl) ?_
  refine g_X1_18 hF hW dX1_clear_17 ?_
  refine lv_iconst (v := 0) hx hb dX1_clear_20 (by decide) ?_
  refine cS_v (rest := []) hF hW mw_X1_83 (c_fillI_a l K (pC_46 K a d _) (by decide)) ⟨Nat.le_of_ble_eq_true rfl, Nat.le_of_ble_eq_true rfl⟩ rfl hl.1 rfl (Nat.le_of_ble_eq_true rfl) dX1_clear_21 ⟨Nat.le_of_ble_eq_true rfl, Nat.le_of_ble_eq_true rfl⟩ (fun _ H locs hW => ?_)
  have hW : Wd K A s (wC K a d (fI (fI (fI M 44 0 432 0) 45 0 5 0) 46 0 144 0)) H locs := hW
  refine lv_aload_n hx hb dX1_clear_24 rfl (lv_at hl 0 rfl) ?_
  refine g_X1_21 hF hW dX1_clear_25 ?_
  refine lv_iconst (v := 0) hx hb dX1_clear_28 (by decide) ?_
  refine cS_v (rest := []) hF hW mw_X1_83 (c_fillI_a l K (pC_47 K a d _) (by decide)) ⟨Nat.le_of_ble_eq_true rfl, Nat.le_of_ble_eq_true rfl⟩ rfl hl.1 rfl (Nat.le_of_ble_eq_true rfl) dX1_clear_29 ⟨Nat.le_of_ble_eq_true rfl, Nat.le_of_ble_eq_true rfl⟩ (fun _ H locs hW => ?_)
  have hW : Wd K A s (wC K a d (fI (fI (fI (fI M 44 0 432 0) 45 0 5 0) 46 0 144 0) 47 0 720 0)) H locs := hW
  refine lv_aload_n hx hb dX1_clear_32 rfl (lv_at hl 0 rfl) ?_
  refine g_X1_34 hF hW dX1_clear_33 ?_
  refine lv_iconst (v := 0) hx hb dX1_clear_36 (by decide) ?_
  refine lv_aload_n hx hb dX1_clear_37 rfl (lv_at hl 0 rfl) ?_
  refine g_X1_58 hF hW dX1_clear_38 ?_
  refine g_X1_89 hF hW dX1_clear_41 ?_
  refine lv_bipush (v := (-9)) hx hb dX1_clear_44 (by decide) ?_
  obtain ⟨q1, h⟩ := cf_some h
  refine cS_v (rest := []) hF hW mw_X1_92 (c_fillI_r l K (pC_51 K a d _) q1 (by decide)) ⟨Nat.le_of_ble_eq_true rfl, Nat.le_of_ble_eq_true rfl⟩ rfl hl.1 rfl (Nat.le_of_ble_eq_true rfl) dX1_clear_46 ⟨Nat.le_of_ble_eq_true rfl, Nat.le_of_ble_eq_true rfl⟩ (fun _ H locs hW => ?_)
  have hW : Wd K A s (wC K a d (fI (fI (fI (fI (fI M 44 0 432 0) 45 0 5 0) 46 0 144 0) 47 0 720 0) 51 (0 : Int32).toNatClampNeg ((fI (fI (fI (fI M 44 0 432 0) 45 0 5 0) 46 0 144 0) 47 0 720 0).1 114 0).toNatClampNeg (-9))) H locs := hW
  refine lv_aload_n hx hb dX1_clear_49 rfl (lv_at hl 0 rfl) ?_
  refine g_X1_40 hF hW dX1_clear_50 ?_
  refine lv_iconst (v := 0) hx hb dX1_clear_53 (by decide) ?_
  refine lv_aload_n hx hb dX1_clear_54 rfl (lv_at hl 0 rfl) ?_
  refine g_X1_58 hF hW dX1_clear_55 ?_
  refine g_X1_89 hF hW dX1_clear_58 ?_
  refine lv_bipush (v := (-9)) hx hb dX1_clear_61 (by decide) ?_
  obtain ⟨q2, h⟩ := cf_some h
  refine cS_v (rest := []) hF hW mw_X1_92 (c_fillI_r l K (pC_53 K a d _) q2 (by decide)) ⟨Nat.le_of_ble_eq_true rfl, Nat.le_of_ble_eq_true rfl⟩ rfl hl.1 rfl (Nat.le_of_ble_eq_true rfl) dX1_clear_63 ⟨Nat.le_of_ble_eq_true rfl, Nat.le_of_ble_eq_true rfl⟩ (fun _ H locs hW => ?_)
  have hW : Wd K A s (wC K a d (fI (fI (fI (fI (fI (fI M 44 0 432 0) 45 0 5 0) 46 0 144 0) 47 0 720 0) 51 (0 : Int32).toNatClampNeg ((fI (fI (fI (fI M 44 0 432 0) 45 0 5 0) 46 0 144 0) 47 0 720 0).1 114 0).toNatClampNeg (-9)) 53 (0 : Int32).toNatClampNeg ((fI (fI (fI (fI (fI M 44 0 432 0) 45 0 5 0) 46 0 144 0) 47 0 720 0) 51 (0 : Int32).toNatClampNeg ((fI (fI (fI (fI M 44 0 432 0) 45 0 5 0) 46 0 144 0) 47 0 720 0).1 114 0).toNatClampNeg (-9)).1 114 0).toNatClampNeg (-9))) H locs := hW
  refine lv_iconst (v := 0) hx hb dX1_clear_66 (by decide) ?_
  refine lv_istore_n (lv' := [(1, .int 0), (0, .ref (a 43))]) hx hb dX1_clear_67 rfl hl (by decide) rfl (fun ls hl => ?_)
  exact J68 100000 0 _ _ _ _ h hW (lv_sub hl [1, 0] rfl)
set_option maxRecDepth 100000 in
set_option maxHeartbeats 1000000 in
theorem c_X1_meetWriters (l : Launch) (K : Kx) (a d : Nat → Nat) {M M0 : Mem} {x1 : Int32} {x2 : Int32} {x3 : Int32}  (h : f_X1_meetWriters M x1 x2 x3 = some M0) : CMv l yX1_meetWriters cX1_meetWriters 6 ({ frames := 2, cells := 0, slots := 0, locals := 54 } : Room) K [.ref (a 43), .int x1, .int x2, .int x3] (wC K a d M) (fun _ => wC K a d M0) := by
  refine cs_v (by decide +kernel) (Nat.le_of_ble_eq_true rfl) ?_
  intro p e s m args below meth c A ls hF hr hk hnm hW hl
  have hx := hF.1
  have hb := hF.2.1
  have hl : lv_has ls 6 [(0, .ref (a 43)), (1, .int x1), (2, .int x2), (3, .int x3)] := hl
  obtain ⟨H, hH⟩ : ∃ z, z = s.heap := ⟨_, rfl⟩
  rw [← hH] at hW ⊢
  have J16 : ∀ (n16 : Nat) (x2 : Int32) (x3 : Int32) (x4 : Int32) (x5 : Int32) (M : Mem) (H : Heap) (locs : List Loc) (ls : Array Slot), f_X1_meetWriters_16 n16 x2 x3 x4 x5 M = some M0 → Wd K A s (wC K a d M) H locs → lv_has ls 6 [(0, .ref (a 43)), (2, .int x2), (3, .int x3), (4, .int x4), (5, .int x5)] → W p l e ({ frames := 2, cells := 0, slots := 0, locals := 54 } : Room) s m args below meth c H locs 0 0 (EndV K A (fun _ => wC K a d M0) below args s ({ frames := 2, cells := 0, slots := 0, locals := 54 } : Room)) (F0 m 16 ls []) := by
    intro n16
    induction n16 with
    | zero => intro x2 x3 x4 x5 M H locs ls h; exact absurd h (by simp [f_X1_meetWriters_16])
    | succ n16 ih16 =>
      intro x2 x3 x4 x5 M H locs ls h hW hl
      rw [f_X1_meetWriters_16] at h
      refine lv_iload hx hb dX1_meetWriters_16 (lv_at hl 4 rfl) ?_
      refine lv_sipush (v := 400) hx hb dX1_meetWriters_18 (by decide) ?_
      refine lv_icmp_ge (tgt := 52) hx hb dX1_meetWriters_21 (by decide) (fun q3 => ?_) (fun q3 => ?_)
      · have h := ifp q3 h
        obtain rfl := Option.some.inj h
        exact rt_v hF hr hk (fun _ => 0) hW dX1_meetWriters_52
      · have h := ifn q3 h
        refine lv_iload hx hb dX1_meetWriters_24 (lv_at hl 3 rfl) ?_
        refine lv_if_lt (tgt := 52) hx hb dX1_meetWriters_26 (by decide) (fun q4 => ?_) (fun q4 => ?_)
        · have h := ifp q4 h
          obtain rfl := Option.some.inj h
          exact rt_v hF hr hk (fun _ => 0) hW dX1_meetWriters_52
        · have h := ifn q4 h
          refine lv_aload_n hx hb dX1_meetWriters_29 rfl (lv_at hl 0 rfl) ?_
          refine lv_iload hx hb dX1_meetWriters_30 (lv_at hl 3 rfl) ?_
          refine lv_iload_n hx hb dX1_meetWriters_32 rfl (lv_at hl 1 rfl) ?_
          refine lv_iload_n hx hb dX1_meetWriters_33 rfl (lv_at hl 2 rfl) ?_
          obtain ⟨M6, hc7, h⟩ := bm_some h
          refine cV_v (ci := 1) (q0 := 43) (rest := []) hF hW mw_X1_117 (c_X1_addNeed l K a d hc7) ⟨Nat.le_of_ble_eq_true rfl, Nat.le_of_ble_eq_true rfl⟩ rfl rfl (pC_43 K a d _) rfl hl.1 rfl (Nat.le_of_ble_eq_true rfl) dX1_meetWriters_34 ⟨Nat.le_of_ble_eq_true rfl, Nat.le_of_ble_eq_true rfl⟩ (fun _ H locs hW => ?_)
          refine lv_aload_n hx hb dX1_meetWriters_37 rfl (lv_at hl 0 rfl) ?_
          refine g_X1_37 hF hW dX1_meetWriters_38 ?_
          refine lv_iload hx hb dX1_meetWriters_41 (lv_at hl 3 rfl) ?_
          obtain ⟨q8, h⟩ := ck_some h
          refine w_ild hF hW (pC_52 K a d _) q8 dX1_meetWriters_43 ?_
          refine lv_istore (lv' := [(4, .int (M6.1 52 x4.toNatClampNeg)), (0, .ref (a 43)), (2, .int x2), (3, .int x3), (5, .int x5)]) hx hb dX1_meetWriters_44 hl (by decide) rfl (fun ls hl => ?_)
          refine lv_iinc (v := (x5 + 1)) (lv' := [(5, .int (x5 + 1)), (4, .int (M6.1 52 x4.toNatClampNeg)), (0, .ref (a 43)), (2, .int x2), (3, .int x3)]) hx hb dX1_meetWriters_46 hl (k := 4) rfl rfl (by decide) rfl (fun ls hl => ?_)
          refine lv_goto (tgt := 16) hx hb dX1_meetWriters_49 (by decide) ?_
          exact ih16 x2 x3 (M6.1 52 x4.toNatClampNeg) (x5 + 1) _ _ _ _ h hW (lv_sub hl [2, 3, 4, 1, 0] rfl)
  unfold f_X1_meetWriters at h
  refine lv_iload_n hx hb dX1_meetWriters_0 rfl (lv_at hl 1 rfl) ?_
  refine lv_if_ge (tgt := 5) hx hb dX1_meetWriters_1 (by decide) (fun q1 => ?_) (fun q1 => ?_)
  · have h := ifp q1 h
    refine lv_aload_n hx hb dX1_meetWriters_5 rfl (lv_at hl 0 rfl) ?_
    refine g_X1_34 hF hW dX1_meetWriters_6 ?_
    refine lv_iload_n hx hb dX1_meetWriters_9 rfl (lv_at hl 1 rfl) ?_
    obtain ⟨q2, h⟩ := ck_some h
    refine w_ild hF hW (pC_51 K a d _) q2 dX1_meetWriters_10 ?_
    refine lv_istore (lv' := [(4, .int (M.1 51 x1.toNatClampNeg)), (0, .ref (a 43)), (1, .int x1), (2, .int x2), (3, .int x3)]) hx hb dX1_meetWriters_11 hl (by decide) rfl (fun ls hl => ?_)
    refine lv_iconst (v := 0) hx hb dX1_meetWriters_13 (by decide) ?_
    refine lv_istore (lv' := [(5, .int 0), (4, .int (M.1 51 x1.toNatClampNeg)), (0, .ref (a 43)), (1, .int x1), (2, .int x2), (3, .int x3)]) hx hb dX1_meetWriters_14 hl (by decide) rfl (fun ls hl => ?_)
    exact J16 100000 x2 x3 (M.1 51 x1.toNatClampNeg) 0 _ _ _ _ h hW (lv_sub hl [2, 4, 5, 1, 0] rfl)
  · have h := ifn q1 h
    obtain rfl := Option.some.inj h
    exact rt_v hF hr hk (fun _ => 0) hW dX1_meetWriters_4
set_option maxRecDepth 100000 in
set_option maxHeartbeats 1000000 in
theorem c_X1_meetReaders (l : Launch) (K : Kx) (a d : Nat → Nat) {M M0 : Mem} {x1 : Int32} {x2 : Int32}  (h : f_X1_meetReaders M x1 x2 = some M0) : CMv l yX1_meetReaders cX1_meetReaders 5 ({ frames := 2, cells := 0, slots := 0, locals := 54 } : Room) K [.ref (a 43), .int x1, .int x2] (wC K a d M) (fun _ => wC K a d M0) := by
  refine cs_v (by decide +kernel) (Nat.le_of_ble_eq_true rfl) ?_
  intro p e s m args below meth c A ls hF hr hk hnm hW hl
  have hx := hF.1
  have hb := hF.2.1
  have hl : lv_has ls 5 [(0, .ref (a 43)), (1, .int x1), (2, .int x2)] := hl
  obtain ⟨H, hH⟩ : ∃ z, z = s.heap := ⟨_, rfl⟩
  rw [← hH] at hW ⊢
  have J15 : ∀ (n15 : Nat) (x2 : Int32) (x3 : Int32) (x4 : Int32) (M : Mem) (H : Heap) (locs : List Loc) (ls : Array Slot), f_X1_meetReaders_15 n15 x2 x3 x4 M = some M0 → Wd K A s (wC K a d M) H locs → lv_has ls 5 [(0, .ref (a 43)), (2, .int x2), (3, .int x3), (4, .int x4)] → W p l e ({ frames := 2, cells := 0, slots := 0, locals := 54 } : Room) s m args below meth c H locs 0 0 (EndV K A (fun _ => wC K a d M0) below args s ({ frames := 2, cells := 0, slots := 0, locals := 54 } : Room)) (F0 m 15 ls []) := by
    intro n15
    induction n15 with
    | zero => intro x2 x3 x4 M H locs ls h; exact absurd h (by simp [f_X1_meetReaders_15])
    | succ n15 ih15 =>
      intro x2 x3 x4 M H locs ls h hW hl
      rw [f_X1_meetReaders_15] at h
      refine lv_iload hx hb dX1_meetReaders_15 (lv_at hl 3 rfl) ?_
      refine lv_sipush (v := 400) hx hb dX1_meetReaders_17 (by decide) ?_
      refine lv_icmp_ge (tgt := 49) hx hb dX1_meetReaders_20 (by decide) (fun q3 => ?_) (fun q3 => ?_)
      · have h := ifp q3 h
        obtain rfl := Option.some.inj h
        exact rt_v hF hr hk (fun _ => 0) hW dX1_meetReaders_49
      · have h := ifn q3 h
        refine lv_iload_n hx hb dX1_meetReaders_23 rfl (lv_at hl 2 rfl) ?_
        refine lv_if_lt (tgt := 49) hx hb dX1_meetReaders_24 (by decide) (fun q4 => ?_) (fun q4 => ?_)
        · have h := ifp q4 h
          obtain rfl := Option.some.inj h
          exact rt_v hF hr hk (fun _ => 0) hW dX1_meetReaders_49
        · have h := ifn q4 h
          refine lv_aload_n hx hb dX1_meetReaders_27 rfl (lv_at hl 0 rfl) ?_
          refine lv_iload_n hx hb dX1_meetReaders_28 rfl (lv_at hl 2 rfl) ?_
          refine lv_iconst (v := 2) hx hb dX1_meetReaders_29 (by decide) ?_
          obtain ⟨q5, h⟩ := nzI_some h
          refine lv_idiv hx hb dX1_meetReaders_30 q5 ?_
          refine lv_iload_n hx hb dX1_meetReaders_31 rfl (lv_at hl 1 rfl) ?_
          refine lv_iconst (v := 1) hx hb dX1_meetReaders_32 (by decide) ?_
          obtain ⟨M7, hc8, h⟩ := bm_some h
          refine cV_v (ci := 1) (q0 := 43) (rest := []) hF hW mw_X1_117 (c_X1_addNeed l K a d hc8) ⟨Nat.le_of_ble_eq_true rfl, Nat.le_of_ble_eq_true rfl⟩ rfl rfl (pC_43 K a d _) rfl hl.1 rfl (Nat.le_of_ble_eq_true rfl) dX1_meetReaders_33 ⟨Nat.le_of_ble_eq_true rfl, Nat.le_of_ble_eq_true rfl⟩ (fun _ H locs hW => ?_)
          refine lv_aload_n hx hb dX1_meetReaders_36 rfl (lv_at hl 0 rfl) ?_
          refine g_X1_43 hF hW dX1_meetReaders_37 ?_
          refine lv_iload_n hx hb dX1_meetReaders_40 rfl (lv_at hl 2 rfl) ?_
          obtain ⟨q9, h⟩ := ck_some h
          refine w_ild hF hW (pC_54 K a d _) q9 dX1_meetReaders_41 ?_
          refine lv_istore_n (lv' := [(3, .int (M7.1 54 x3.toNatClampNeg)), (0, .ref (a 43)), (2, .int x2), (4, .int x4)]) hx hb dX1_meetReaders_42 rfl hl (by decide) rfl (fun ls hl => ?_)
          refine lv_iinc (v := (x4 + 1)) (lv' := [(4, .int (x4 + 1)), (3, .int (M7.1 54 x3.toNatClampNeg)), (0, .ref (a 43)), (2, .int x2)]) hx hb dX1_meetReaders_43 hl (k := 3) rfl rfl (by decide) rfl (fun ls hl => ?_)
          refine lv_goto (tgt := 15) hx hb dX1_meetReaders_46 (by decide) ?_
          exact ih15 x2 (M7.1 54 x3.toNatClampNeg) (x4 + 1) _ _ _ _ h hW (lv_sub hl [2, 3, 1, 0] rfl)
  unfold f_X1_meetReaders at h
  refine lv_iload_n hx hb dX1_meetReaders_0 rfl (lv_at hl 1 rfl) ?_
  refine lv_if_ge (tgt := 5) hx hb dX1_meetReaders_1 (by decide) (fun q1 => ?_) (fun q1 => ?_)
  · have h := ifp q1 h
    refine lv_aload_n hx hb dX1_meetReaders_5 rfl (lv_at hl 0 rfl) ?_
    refine g_X1_40 hF hW dX1_meetReaders_6 ?_
    refine lv_iload_n hx hb dX1_meetReaders_9 rfl (lv_at hl 1 rfl) ?_
    obtain ⟨q2, h⟩ := ck_some h
    refine w_ild hF hW (pC_53 K a d _) q2 dX1_meetReaders_10 ?_
    refine lv_istore_n (lv' := [(3, .int (M.1 53 x1.toNatClampNeg)), (0, .ref (a 43)), (1, .int x1), (2, .int x2)]) hx hb dX1_meetReaders_11 rfl hl (by decide) rfl (fun ls hl => ?_)
    refine lv_iconst (v := 0) hx hb dX1_meetReaders_12 (by decide) ?_
    refine lv_istore (lv' := [(4, .int 0), (3, .int (M.1 53 x1.toNatClampNeg)), (0, .ref (a 43)), (1, .int x1), (2, .int x2)]) hx hb dX1_meetReaders_13 hl (by decide) rfl (fun ls hl => ?_)
    exact J15 100000 x2 (M.1 53 x1.toNatClampNeg) 0 _ _ _ _ h hW (lv_sub hl [2, 4, 1, 0] rfl)
  · have h := ifn q1 h
    obtain rfl := Option.some.inj h
    exact rt_v hF hr hk (fun _ => 0) hW dX1_meetReaders_4
set_option maxRecDepth 100000 in
set_option maxHeartbeats 1000000 in
theorem c_X1_link (l : Launch) (K : Kx) (a d : Nat → Nat) {M M0 : Mem} {x1 : Int32}  (h : f_X1_link M x1 = some M0) : CMv l yX1_link cX1_link 5 ({ frames := 1, cells := 0, slots := 0, locals := 22 } : Room) K [.ref (a 43), .int x1] (wC K a d M) (fun _ => wC K a d M0) := by
  refine cs_v (by decide +kernel) (Nat.le_of_ble_eq_true rfl) ?_
  intro p e s m args below meth c A ls hF hr hk hnm hW hl
  have hx := hF.1
  have hb := hF.2.1
  have hl : lv_has ls 5 [(0, .ref (a 43)), (1, .int x1)] := hl
  obtain ⟨H, hH⟩ : ∃ z, z = s.heap := ⟨_, rfl⟩
  rw [← hH] at hW ⊢
  have J35 : ∀ (x1 : Int32) (M : Mem) (H : Heap) (locs : List Loc) (ls : Array Slot), f_X1_link_35 x1 M = some M0 → Wd K A s (wC K a d M) H locs → lv_has ls 5 [(0, .ref (a 43)), (1, .int x1)] → W p l e ({ frames := 1, cells := 0, slots := 0, locals := 22 } : Room) s m args below meth c H locs 0 0 (EndV K A (fun _ => wC K a d M0) below args s ({ frames := 1, cells := 0, slots := 0, locals := 22 } : Room)) (F0 m 35 ls []) := by
    intro x1 M H locs ls h hW hl
    unfold f_X1_link_35 at h
    refine lv_aload_n hx hb dX1_link_35 rfl (lv_at hl 0 rfl) ?_
    refine g_X1_58 hF hW dX1_link_36 ?_
    refine g_X1_106 hF hW dX1_link_39 ?_
    refine lv_iload_n hx hb dX1_link_42 rfl (lv_at hl 1 rfl) ?_
    refine lv_iconst (v := 3) hx hb dX1_link_43 (by decide) ?_
    refine lv_imul hx hb dX1_link_44 ?_
    refine lv_iconst (v := 1) hx hb dX1_link_45 (by decide) ?_
    refine lv_iadd hx hb dX1_link_46 ?_
    obtain ⟨q6, h⟩ := ck_some h
    refine w_ild hF hW (pC_41 K a d _) q6 dX1_link_47 ?_
    refine lv_istore_n (lv' := [(3, .int (M.1 41 ((x1 * 3) + 1).toNatClampNeg)), (0, .ref (a 43)), (1, .int x1)]) hx hb dX1_link_48 rfl hl (by decide) rfl (fun ls hl => ?_)
    refine lv_aload_n hx hb dX1_link_49 rfl (lv_at hl 1 rfl) ?_
    refine g_X1_58 hF hW dX1_link_50 ?_
    refine g_X1_106 hF hW dX1_link_53 ?_
    refine lv_iload_n hx hb dX1_link_56 rfl (lv_at hl 2 rfl) ?_
    refine lv_iconst (v := 3) hx hb dX1_link_57 (by decide) ?_
    refine lv_imul hx hb dX1_link_58 ?_
    refine lv_iconst (v := 2) hx hb dX1_link_59 (by decide) ?_
    refine lv_iadd hx hb dX1_link_60 ?_
    obtain ⟨q7, h⟩ := ck_some h
    refine w_ild hF hW (pC_41 K a d _) q7 dX1_link_61 ?_
    refine lv_istore (lv' := [(4, .int (M.1 41 ((x1 * 3) + 2).toNatClampNeg)), (3, .int (M.1 41 ((x1 * 3) + 1).toNatClampNeg)), (0, .ref (a 43)), (1, .int x1)]) hx hb dX1_link_62 hl (by decide) rfl (fun ls hl => ?_)
    refine lv_aload_n hx hb dX1_link_64 rfl (lv_at hl 2 rfl) ?_
    refine lv_iload_n hx hb dX1_link_65 rfl (lv_at hl 1 rfl) ?_
    refine lv_iload_n hx hb dX1_link_66 rfl (lv_at hl 3 rfl) ?_
    refine lv_iconst (v := 2) hx hb dX1_link_67 (by decide) ?_
    refine lv_imul hx hb dX1_link_68 ?_
    obtain ⟨M9, hc10, h⟩ := bm_some h
    refine cV_v (ci := 1) (q0 := 43) (rest := []) hF hW mw_X1_120 (c_X1_linkReader l K a d hc10) ⟨Nat.le_of_ble_eq_true rfl, Nat.le_of_ble_eq_true rfl⟩ rfl rfl (pC_43 K a d _) rfl hl.1 rfl (Nat.le_of_ble_eq_true rfl) dX1_link_69 ⟨Nat.le_of_ble_eq_true rfl, Nat.le_of_ble_eq_true rfl⟩ (fun _ H locs hW => ?_)
    refine lv_iload hx hb dX1_link_72 (lv_at hl 0 rfl) ?_
    refine lv_iload_n hx hb dX1_link_74 rfl (lv_at hl 1 rfl) ?_
    refine lv_icmp_eq (tgt := 89) hx hb dX1_link_75 (by decide) (fun q11 => ?_) (fun q11 => ?_)
    · have h := ifp q11 h
      obtain rfl := Option.some.inj h
      exact rt_v hF hr hk (fun _ => 0) hW dX1_link_89
    · have h := ifn q11 h
      refine lv_aload_n hx hb dX1_link_78 rfl (lv_at hl 2 rfl) ?_
      refine lv_iload hx hb dX1_link_79 (lv_at hl 0 rfl) ?_
      refine lv_iload_n hx hb dX1_link_81 rfl (lv_at hl 3 rfl) ?_
      refine lv_iconst (v := 2) hx hb dX1_link_82 (by decide) ?_
      refine lv_imul hx hb dX1_link_83 ?_
      refine lv_iconst (v := 1) hx hb dX1_link_84 (by decide) ?_
      refine lv_iadd hx hb dX1_link_85 ?_
      obtain ⟨M13, hc14, h⟩ := bm_some h
      refine cV_v (ci := 1) (q0 := 43) (rest := []) hF hW mw_X1_120 (c_X1_linkReader l K a d hc14) ⟨Nat.le_of_ble_eq_true rfl, Nat.le_of_ble_eq_true rfl⟩ rfl rfl (pC_43 K a d _) rfl hl.1 rfl (Nat.le_of_ble_eq_true rfl) dX1_link_86 ⟨Nat.le_of_ble_eq_true rfl, Nat.le_of_ble_eq_true rfl⟩ (fun _ H locs hW => ?_)
      obtain rfl := Option.some.inj h
      exact rt_v hF hr hk (fun _ => 0) hW dX1_link_89
  unfold f_X1_link at h
  refine lv_aload_n hx hb dX1_link_0 rfl (lv_at hl 0 rfl) ?_
  refine g_X1_58 hF hW dX1_link_1 ?_
  refine g_X1_106 hF hW dX1_link_4 ?_
  refine lv_iload_n hx hb dX1_link_7 rfl (lv_at hl 1 rfl) ?_
  refine lv_iconst (v := 3) hx hb dX1_link_8 (by decide) ?_
  refine lv_imul hx hb dX1_link_9 ?_
  obtain ⟨q1, h⟩ := ck_some h
  refine w_ild hF hW (pC_41 K a d _) q1 dX1_link_10 ?_
  refine lv_istore_n (lv' := [(2, .int (M.1 41 (x1 * 3).toNatClampNeg)), (0, .ref (a 43)), (1, .int x1)]) hx hb dX1_link_11 rfl hl (by decide) rfl (fun ls hl => ?_)
  refine lv_iload_n hx hb dX1_link_12 rfl (lv_at hl 0 rfl) ?_
  refine lv_if_lt (tgt := 35) hx hb dX1_link_13 (by decide) (fun q2 => ?_) (fun q2 => ?_)
  · have h := ifp q2 h
    exact J35 x1 _ _ _ _ h hW (lv_sub hl [1, 2] rfl)
  · have h := ifn q2 h
    refine lv_aload_n hx hb dX1_link_16 rfl (lv_at hl 1 rfl) ?_
    refine g_X1_37 hF hW dX1_link_17 ?_
    refine lv_iload_n hx hb dX1_link_20 rfl (lv_at hl 2 rfl) ?_
    refine lv_aload_n hx hb dX1_link_21 rfl (lv_at hl 1 rfl) ?_
    refine g_X1_34 hF hW dX1_link_22 ?_
    refine lv_iload_n hx hb dX1_link_25 rfl (lv_at hl 0 rfl) ?_
    obtain ⟨q3, h⟩ := ck_some h
    refine w_ild hF hW (pC_51 K a d _) q3 dX1_link_26 ?_
    obtain ⟨q4, h⟩ := ck_some h
    refine w_ist hF hW (pC_52 K a d _) q4 (uC_52 K a d _ _ _) dX1_link_27 (fun H locs hW => ?_)
    refine lv_aload_n hx hb dX1_link_28 rfl (lv_at hl 1 rfl) ?_
    refine g_X1_34 hF hW dX1_link_29 ?_
    refine lv_iload_n hx hb dX1_link_32 rfl (lv_at hl 0 rfl) ?_
    refine lv_iload_n hx hb dX1_link_33 rfl (lv_at hl 2 rfl) ?_
    obtain ⟨q5, h⟩ := ck_some h
    refine w_ist hF hW (pC_51 K a d _) q5 (uC_51 K a d _ _ _) dX1_link_34 (fun H locs hW => ?_)
    exact J35 x1 _ _ _ _ h hW (lv_sub hl [1, 2] rfl)
set_option maxRecDepth 100000 in
set_option maxHeartbeats 1000000 in
theorem c_X1_isCarriedBy (l : Launch) (K : Kx) (a d : Nat → Nat) {M : Mem} {x1 : Int32} {r0 : Bool} (h : f_X1_isCarriedBy M x1 = some r0) : CMi l yX1_isCarriedBy cX1_isCarriedBy 6 (some .boolean) ({ frames := 1, cells := 0, slots := 0, locals := 24 } : Room) K [.ref (a 43), .int x1] (wC K a d M) (fun _ => wC K a d M) (bI r0) := by
  refine cs_i (by decide +kernel) (Nat.le_of_ble_eq_true rfl) ?_
  intro p e s m args below meth c A ls hF hr hk hnm hW hl
  have hx := hF.1
  have hb := hF.2.1
  have hl : lv_has ls 6 [(0, .ref (a 43)), (1, .int x1)] := hl
  obtain ⟨H, hH⟩ : ∃ z, z = s.heap := ⟨_, rfl⟩
  rw [← hH] at hW ⊢
  have J12 : ∀ (n12 : Nat) (x1 : Int32) (x2 : Int32) (x3 : Int32) (M : Mem) (H : Heap) (locs : List Loc) (ls : Array Slot), f_X1_isCarriedBy_12 n12 x1 x2 x3 M = some r0 → Wd K A s (wC K a d M) H locs → lv_has ls 6 [(0, .ref (a 43)), (1, .int x1), (2, .int x2), (3, .int x3)] → W p l e ({ frames := 1, cells := 0, slots := 0, locals := 24 } : Room) s m args below meth c H locs 0 0 (EndI K A (fun _ => wC K a d M) (bI r0) below args s ({ frames := 1, cells := 0, slots := 0, locals := 24 } : Room)) (F0 m 12 ls []) := by
    intro n12
    induction n12 with
    | zero => intro x1 x2 x3 M H locs ls h; exact absurd h (by simp [f_X1_isCarriedBy_12])
    | succ n12 ih12 =>
      have J26 : ∀ (n26 : Nat) (x1 : Int32) (x2 : Int32) (x3 : Int32) (x4 : Int32) (M : Mem) (H : Heap) (locs : List Loc) (ls : Array Slot), f_X1_isCarriedBy_26 (f_X1_isCarriedBy_12 n12) n26 x1 x2 x3 x4 M = some r0 → Wd K A s (wC K a d M) H locs → lv_has ls 6 [(0, .ref (a 43)), (1, .int x1), (2, .int x2), (3, .int x3), (4, .int x4)] → W p l e ({ frames := 1, cells := 0, slots := 0, locals := 24 } : Room) s m args below meth c H locs 0 0 (EndI K A (fun _ => wC K a d M) (bI r0) below args s ({ frames := 1, cells := 0, slots := 0, locals := 24 } : Room)) (F0 m 26 ls []) := by
        intro n26
        induction n26 with
        | zero => intro x1 x2 x3 x4 M H locs ls h; exact absurd h (by simp [f_X1_isCarriedBy_26])
        | succ n26 ih26 =>
          intro x1 x2 x3 x4 M H locs ls h hW hl
          rw [f_X1_isCarriedBy_26] at h
          refine lv_iload hx hb dX1_isCarriedBy_26 (lv_at hl 4 rfl) ?_
          refine lv_aload_n hx hb dX1_isCarriedBy_28 rfl (lv_at hl 0 rfl) ?_
          refine g_X1_50 hF hW dX1_isCarriedBy_29 ?_
          refine g_X1_95 hF hW dX1_isCarriedBy_32 ?_
          refine lv_icmp_ge (tgt := 94) hx hb dX1_isCarriedBy_35 (by decide) (fun q3 => ?_) (fun q3 => ?_)
          · have h := ifp q3 h
            refine lv_iinc (v := (x3 + 1)) (lv' := [(3, .int (x3 + 1)), (0, .ref (a 43)), (1, .int x1), (2, .int x2), (4, .int x4)]) hx hb dX1_isCarriedBy_94 hl (k := 3) rfl rfl (by decide) rfl (fun ls hl => ?_)
            refine lv_goto (tgt := 12) hx hb dX1_isCarriedBy_97 (by decide) ?_
            exact ih12 x1 x2 (x3 + 1) _ _ _ _ h hW (lv_sub hl [1, 2, 3, 0] rfl)
          · have h := ifn q3 h
            refine lv_iload_n hx hb dX1_isCarriedBy_38 rfl (lv_at hl 3 rfl) ?_
            refine lv_bipush (v := 12) hx hb dX1_isCarriedBy_39 (by decide) ?_
            refine lv_imul hx hb dX1_isCarriedBy_41 ?_
            refine lv_iload hx hb dX1_isCarriedBy_42 (lv_at hl 4 rfl) ?_
            refine lv_iadd hx hb dX1_isCarriedBy_44 ?_
            refine lv_iconst (v := 5) hx hb dX1_isCarriedBy_45 (by decide) ?_
            refine lv_imul hx hb dX1_isCarriedBy_46 ?_
            refine lv_iload_n hx hb dX1_isCarriedBy_47 rfl (lv_at hl 2 rfl) ?_
            refine lv_iadd hx hb dX1_isCarriedBy_48 ?_
            refine lv_istore (lv' := [(5, .int ((((x3 * 12) + x4) * 5) + x2)), (0, .ref (a 43)), (1, .int x1), (2, .int x2), (3, .int x3), (4, .int x4)]) hx hb dX1_isCarriedBy_49 hl (by decide) rfl (fun ls hl => ?_)
            refine lv_aload_n hx hb dX1_isCarriedBy_51 rfl (lv_at hl 1 rfl) ?_
            refine g_X1_21 hF hW dX1_isCarriedBy_52 ?_
            refine lv_iload hx hb dX1_isCarriedBy_55 (lv_at hl 0 rfl) ?_
            obtain ⟨q4, h⟩ := ck_some h
            refine w_ild hF hW (pC_47 K a d _) q4 dX1_isCarriedBy_57 ?_
            refine lv_if_le (tgt := 88) hx hb dX1_isCarriedBy_58 (by decide) (fun q5 => ?_) (fun q5 => ?_)
            · have h := ifp q5 h
              refine lv_iinc (v := (x4 + 1)) (lv' := [(4, .int (x4 + 1)), (5, .int ((((x3 * 12) + x4) * 5) + x2)), (0, .ref (a 43)), (1, .int x1), (2, .int x2), (3, .int x3)]) hx hb dX1_isCarriedBy_88 hl (k := 5) rfl rfl (by decide) rfl (fun ls hl => ?_)
              refine lv_goto (tgt := 26) hx hb dX1_isCarriedBy_91 (by decide) ?_
              exact ih26 x1 x2 x3 (x4 + 1) _ _ _ _ h hW (lv_sub hl [2, 3, 4, 5, 0] rfl)
            · have h := ifn q5 h
              refine lv_aload_n hx hb dX1_isCarriedBy_61 rfl (lv_at hl 1 rfl) ?_
              refine g_X1_50 hF hW dX1_isCarriedBy_62 ?_
              refine lv_iload_n hx hb dX1_isCarriedBy_65 rfl (lv_at hl 4 rfl) ?_
              refine lv_iload_n hx hb dX1_isCarriedBy_66 rfl (lv_at hl 2 rfl) ?_
              obtain ⟨r6, hc8, h⟩ := bq_some h
              refine cV_i (ci := 2) (q0 := 5) (rest := []) hF hW mw_X1_142 (c_X2_stands l K a d hc8) ⟨Nat.le_of_ble_eq_true rfl, Nat.le_of_ble_eq_true rfl⟩ rfl rfl (pC_5 K a d _) rfl hl.1 rfl (Nat.le_of_ble_eq_true rfl) dX1_isCarriedBy_67 ⟨Nat.le_of_ble_eq_true rfl, Nat.le_of_ble_eq_true rfl⟩ (fun _ H locs hW => ?_)
              refine lz_eq (tgt := 88) hx hb dX1_isCarriedBy_70 (by decide) (fun q9 => ?_) (fun q9 => ?_)
              · have h := ifn q9 h
                refine lv_iinc (v := (x4 + 1)) (lv' := [(4, .int (x4 + 1)), (5, .int ((((x3 * 12) + x4) * 5) + x2)), (0, .ref (a 43)), (1, .int x1), (2, .int x2), (3, .int x3)]) hx hb dX1_isCarriedBy_88 hl (k := 5) rfl rfl (by decide) rfl (fun ls hl => ?_)
                refine lv_goto (tgt := 26) hx hb dX1_isCarriedBy_91 (by decide) ?_
                exact ih26 x1 x2 x3 (x4 + 1) _ _ _ _ h hW (lv_sub hl [2, 3, 4, 5, 0] rfl)
              · have h := ifp q9 h
                refine lv_aload_n hx hb dX1_isCarriedBy_73 rfl (lv_at hl 1 rfl) ?_
                refine g_X1_50 hF hW dX1_isCarriedBy_74 ?_
                refine lv_iload hx hb dX1_isCarriedBy_77 (lv_at hl 5 rfl) ?_
                refine lv_iload_n hx hb dX1_isCarriedBy_79 rfl (lv_at hl 2 rfl) ?_
                obtain ⟨r10, hc12, h⟩ := bq_some h
                refine cV_i (ci := 2) (q0 := 5) (rest := []) hF hW mw_X1_142 (c_X2_stands l K a d hc12) ⟨Nat.le_of_ble_eq_true rfl, Nat.le_of_ble_eq_true rfl⟩ rfl rfl (pC_5 K a d _) rfl hl.1 rfl (Nat.le_of_ble_eq_true rfl) dX1_isCarriedBy_80 ⟨Nat.le_of_ble_eq_true rfl, Nat.le_of_ble_eq_true rfl⟩ (fun _ H locs hW => ?_)
                refine lz_eq (tgt := 88) hx hb dX1_isCarriedBy_83 (by decide) (fun q13 => ?_) (fun q13 => ?_)
                · have h := ifn q13 h
                  refine lv_iinc (v := (x4 + 1)) (lv' := [(4, .int (x4 + 1)), (5, .int ((((x3 * 12) + x4) * 5) + x2)), (0, .ref (a 43)), (1, .int x1), (2, .int x2), (3, .int x3)]) hx hb dX1_isCarriedBy_88 hl (k := 5) rfl rfl (by decide) rfl (fun ls hl => ?_)
                  refine lv_goto (tgt := 26) hx hb dX1_isCarriedBy_91 (by decide) ?_
                  exact ih26 x1 x2 x3 (x4 + 1) _ _ _ _ h hW (lv_sub hl [2, 3, 4, 5, 0] rfl)
                · have h := ifp q13 h
                  refine lv_iconst (v := 1) hx hb dX1_isCarriedBy_86 (by decide) ?_
                  obtain rfl := Option.some.inj h
                  exact rt_i hF hr hk (bI_n true) (fun _ => 0) hW rfl dX1_isCarriedBy_87
      intro x1 x2 x3 M H locs ls h hW hl
      rw [f_X1_isCarriedBy_12] at h
      refine lv_iload_n hx hb dX1_isCarriedBy_12 rfl (lv_at hl 3 rfl) ?_
      refine lv_aload_n hx hb dX1_isCarriedBy_13 rfl (lv_at hl 0 rfl) ?_
      refine g_X1_50 hF hW dX1_isCarriedBy_14 ?_
      refine g_X1_95 hF hW dX1_isCarriedBy_17 ?_
      refine lv_icmp_ge (tgt := 100) hx hb dX1_isCarriedBy_20 (by decide) (fun q2 => ?_) (fun q2 => ?_)
      · have h := ifp q2 h
        refine lv_iconst (v := 0) hx hb dX1_isCarriedBy_100 (by decide) ?_
        obtain rfl := Option.some.inj h
        exact rt_i hF hr hk (bI_n false) (fun _ => 0) hW rfl dX1_isCarriedBy_101
      · have h := ifn q2 h
        refine lv_iconst (v := 0) hx hb dX1_isCarriedBy_23 (by decide) ?_
        refine lv_istore (lv' := [(4, .int 0), (0, .ref (a 43)), (1, .int x1), (2, .int x2), (3, .int x3)]) hx hb dX1_isCarriedBy_24 hl (by decide) rfl (fun ls hl => ?_)
        exact J26 100000 x1 x2 x3 0 _ _ _ _ h hW (lv_sub hl [1, 2, 3, 4, 0] rfl)
  unfold f_X1_isCarriedBy at h
  refine lv_aload_n hx hb dX1_isCarriedBy_0 rfl (lv_at hl 0 rfl) ?_
  refine g_X1_50 hF hW dX1_isCarriedBy_1 ?_
  refine g_X1_139 hF hW dX1_isCarriedBy_4 ?_
  refine lv_iload_n hx hb dX1_isCarriedBy_7 rfl (lv_at hl 1 rfl) ?_
  obtain ⟨q1, h⟩ := ck_some h
  refine w_ild hF hW (pC_11 K a d _) q1 dX1_isCarriedBy_8 ?_
  refine lv_istore_n (lv' := [(2, .int (M.1 11 x1.toNatClampNeg)), (0, .ref (a 43)), (1, .int x1)]) hx hb dX1_isCarriedBy_9 rfl hl (by decide) rfl (fun ls hl => ?_)
  refine lv_iconst (v := 0) hx hb dX1_isCarriedBy_10 (by decide) ?_
  refine lv_istore_n (lv' := [(3, .int 0), (2, .int (M.1 11 x1.toNatClampNeg)), (0, .ref (a 43)), (1, .int x1)]) hx hb dX1_isCarriedBy_11 rfl hl (by decide) rfl (fun ls hl => ?_)
  exact J12 100000 x1 (M.1 11 x1.toNatClampNeg) 0 _ _ _ _ h hW (lv_sub hl [2, 3, 1, 0] rfl)
set_option maxRecDepth 100000 in
set_option maxHeartbeats 1000000 in
theorem c_X2_add (l : Launch) (K : Kx) (a d : Nat → Nat) {M M0 : Mem} {x1 : Int32} {x2 : Int32} {x3 : Int32} {x4 : Int32} {r0 : Int32} (h : f_X2_add M x1 x2 x3 x4 = some (r0, M0)) : CMi l yX2_add cX2_add 6 (some .int) ({ frames := 2, cells := 0, slots := 0, locals := 46 } : Room) K [.ref (a 5), .int x1, .int x2, .int x3, .int x4] (wC K a d M) (fun _ => wC K a d M0) r0 := by
  refine cs_i (by decide +kernel) (Nat.le_of_ble_eq_true rfl) ?_
  intro p e s m args below meth c A ls hF hr hk hnm hW hl
  have hx := hF.1
  have hb := hF.2.1
  have hl : lv_has ls 6 [(0, .ref (a 5)), (1, .int x1), (2, .int x2), (3, .int x3), (4, .int x4)] := hl
  obtain ⟨H, hH⟩ : ∃ z, z = s.heap := ⟨_, rfl⟩
  rw [← hH] at hW ⊢
  have J73 : ∀ (x2 : Int32) (x5 : Int32) (s1 : Int32) (s2 : Int32) (M : Mem) (H : Heap) (locs : List Loc) (ls : Array Slot), f_X2_add_73 x2 x5 s1 s2 M = some (r0, M0) → Wd K A s (wC K a d M) H locs → lv_has ls 6 [(0, .ref (a 5)), (2, .int x2), (5, .int x5)] → W p l e ({ frames := 2, cells := 0, slots := 0, locals := 46 } : Room) s m args below meth c H locs 0 0 (EndI K A (fun _ => wC K a d M0) r0 below args s ({ frames := 2, cells := 0, slots := 0, locals := 46 } : Room)) (F0 m 73 ls [.int s2, .int s1, .ref (a 5)]) := by
    have J122 : ∀ (x5 : Int32) (M : Mem) (H : Heap) (locs : List Loc) (ls : Array Slot), f_X2_add_122 x5 M = some (r0, M0) → Wd K A s (wC K a d M) H locs → lv_has ls 6 [(0, .ref (a 5)), (5, .int x5)] → W p l e ({ frames := 2, cells := 0, slots := 0, locals := 46 } : Room) s m args below meth c H locs 0 0 (EndI K A (fun _ => wC K a d M0) r0 below args s ({ frames := 2, cells := 0, slots := 0, locals := 46 } : Room)) (F0 m 122 ls []) := by
      intro x5 M H locs ls h hW hl
      unfold f_X2_add_122 at h
      refine lv_aload_n hx hb dX2_add_122 rfl (lv_at hl 0 rfl) ?_
      refine lv_dup hx hb dX2_add_123 rfl ?_
      refine g_X2_42 hF hW dX2_add_124 ?_
      refine lv_iconst (v := 1) hx hb dX2_add_127 (by decide) ?_
      refine lv_iadd hx hb dX2_add_128 ?_
      refine s_X2_42 (x := ((M.1 106 0) + 1)) hF hW dX2_add_129 (fun H locs hW => ?_)
      refine lv_iload hx hb dX2_add_132 (lv_at hl 1 rfl) ?_
      obtain ⟨rfl, rfl⟩ := Prod.mk.inj (Option.some.inj h)
      exact rt_i hF hr hk rfl (fun _ => 0) hW rfl dX2_add_134
    intro x2 x5 s1 s2 M H locs ls h hW hl
    unfold f_X2_add_73 at h
    obtain ⟨M14, hc15, h⟩ := bm_some h
    refine cV_v (ci := 2) (q0 := 5) (rest := []) hF hW mw_X2_88 (c_X2_hang l K a d hc15) ⟨Nat.le_of_ble_eq_true rfl, Nat.le_of_ble_eq_true rfl⟩ rfl rfl (pC_5 K a d _) rfl hl.1 rfl (Nat.le_of_ble_eq_true rfl) dX2_add_73 ⟨Nat.le_of_ble_eq_true rfl, Nat.le_of_ble_eq_true rfl⟩ (fun _ H locs hW => ?_)
    refine lv_aload_n hx hb dX2_add_76 rfl (lv_at hl 0 rfl) ?_
    refine g_X2_49 hF hW dX2_add_77 ?_
    refine lv_iload hx hb dX2_add_80 (lv_at hl 2 rfl) ?_
    refine lv_bipush (v := (-9)) hx hb dX2_add_82 (by decide) ?_
    obtain ⟨q16, h⟩ := ck_some h
    refine w_ist hF hW (pC_17 K a d _) q16 (uC_17 K a d _ _ _) dX2_add_84 (fun H locs hW => ?_)
    refine lv_iload_n hx hb dX2_add_85 rfl (lv_at hl 1 rfl) ?_
    refine lv_iconst (v := 3) hx hb dX2_add_86 (by decide) ?_
    refine lv_icmp_ne (tgt := 122) hx hb dX2_add_87 (by decide) (fun q17 => ?_) (fun q17 => ?_)
    · have h := ifn q17 h
      exact J122 x5 _ _ _ _ h hW (lv_sub hl [0, 2] rfl)
    · have h := ifp q17 h
      refine lv_aload_n hx hb dX2_add_90 rfl (lv_at hl 0 rfl) ?_
      refine g_X2_46 hF hW dX2_add_91 ?_
      refine lv_aload_n hx hb dX2_add_94 rfl (lv_at hl 0 rfl) ?_
      refine g_X2_52 hF hW dX2_add_95 ?_
      refine lv_iload hx hb dX2_add_98 (lv_at hl 2 rfl) ?_
      obtain ⟨q18, h⟩ := ck_some h
      refine w_ist hF hW (pC_16 K a d _) q18 (uC_16 K a d _ _ _) dX2_add_100 (fun H locs hW => ?_)
      refine lv_aload_n hx hb dX2_add_101 rfl (lv_at hl 0 rfl) ?_
      refine g_X2_49 hF hW dX2_add_102 ?_
      refine lv_iload hx hb dX2_add_105 (lv_at hl 2 rfl) ?_
      refine lv_aload_n hx hb dX2_add_107 rfl (lv_at hl 0 rfl) ?_
      refine g_X2_52 hF hW dX2_add_108 ?_
      obtain ⟨q19, h⟩ := ck_some h
      refine w_ist hF hW (pC_17 K a d _) q19 (uC_17 K a d _ _ _) dX2_add_111 (fun H locs hW => ?_)
      refine lv_aload_n hx hb dX2_add_112 rfl (lv_at hl 0 rfl) ?_
      refine lv_dup hx hb dX2_add_113 rfl ?_
      refine g_X2_52 hF hW dX2_add_114 ?_
      refine lv_iconst (v := 1) hx hb dX2_add_117 (by decide) ?_
      refine lv_iadd hx hb dX2_add_118 ?_
      refine s_X2_52 (x := (((sI (sI (sI M14 17 x5.toNatClampNeg (-9)) 16 ((sI M14 17 x5.toNatClampNeg (-9)).1 107 0).toNatClampNeg x5) 17 x5.toNatClampNeg ((sI (sI M14 17 x5.toNatClampNeg (-9)) 16 ((sI M14 17 x5.toNatClampNeg (-9)).1 107 0).toNatClampNeg x5).1 107 0)).1 107 0) + 1)) hF hW dX2_add_119 (fun H locs hW => ?_)
      exact J122 x5 _ _ _ _ h hW (lv_sub hl [0, 2] rfl)
  unfold f_X2_add at h
  refine lv_aload_n hx hb dX2_add_0 rfl (lv_at hl 0 rfl) ?_
  refine g_X2_42 hF hW dX2_add_1 ?_
  refine lv_istore (lv' := [(5, .int (M.1 106 0)), (0, .ref (a 5)), (1, .int x1), (2, .int x2), (3, .int x3), (4, .int x4)]) hx hb dX2_add_4 hl (by decide) rfl (fun ls hl => ?_)
  refine lv_aload_n hx hb dX2_add_6 rfl (lv_at hl 1 rfl) ?_
  refine g_X2_21 hF hW dX2_add_7 ?_
  refine lv_iload hx hb dX2_add_10 (lv_at hl 0 rfl) ?_
  refine lv_iload_n hx hb dX2_add_12 rfl (lv_at hl 3 rfl) ?_
  obtain ⟨q1, h⟩ := ck_some h
  refine w_ist hF hW (pC_9 K a d _) q1 (uC_9 K a d _ _ _) dX2_add_13 (fun H locs hW => ?_)
  refine lv_aload_n hx hb dX2_add_14 rfl (lv_at hl 1 rfl) ?_
  refine g_X2_24 hF hW dX2_add_15 ?_
  refine lv_iload hx hb dX2_add_18 (lv_at hl 0 rfl) ?_
  refine lv_iload_n hx hb dX2_add_20 rfl (lv_at hl 2 rfl) ?_
  obtain ⟨q2, h⟩ := ck_some h
  refine w_ist hF hW (pC_10 K a d _) q2 (uC_10 K a d _ _ _) dX2_add_21 (fun H locs hW => ?_)
  refine lv_aload_n hx hb dX2_add_22 rfl (lv_at hl 1 rfl) ?_
  refine g_X2_27 hF hW dX2_add_23 ?_
  refine lv_iload hx hb dX2_add_26 (lv_at hl 0 rfl) ?_
  refine lv_aload_n hx hb dX2_add_28 rfl (lv_at hl 1 rfl) ?_
  refine lv_iload_n hx hb dX2_add_29 rfl (lv_at hl 2 rfl) ?_
  obtain ⟨r3, hc5, h⟩ := bq_some h
  refine cV_i (ci := 2) (q0 := 5) (rest := [.int (M.1 106 0), .ref (a 11)]) hF hW mw_X2_80 (c_X2_loopsIn l K a d hc5) ⟨Nat.le_of_ble_eq_true rfl, Nat.le_of_ble_eq_true rfl⟩ rfl rfl (pC_5 K a d _) rfl hl.1 rfl (Nat.le_of_ble_eq_true rfl) dX2_add_30 ⟨Nat.le_of_ble_eq_true rfl, Nat.le_of_ble_eq_true rfl⟩ (fun _ H locs hW => ?_)
  obtain ⟨q6, h⟩ := ck_some h
  refine w_ist hF hW (pC_11 K a d _) q6 (uC_11 K a d _ _ _) dX2_add_33 (fun H locs hW => ?_)
  refine lv_aload_n hx hb dX2_add_34 rfl (lv_at hl 1 rfl) ?_
  refine g_X2_30 hF hW dX2_add_35 ?_
  refine lv_iload hx hb dX2_add_38 (lv_at hl 0 rfl) ?_
  refine lv_iload_n hx hb dX2_add_40 rfl (lv_at hl 4 rfl) ?_
  obtain ⟨q7, h⟩ := ck_some h
  refine w_ist hF hW (pC_12 K a d _) q7 (uC_12 K a d _ _ _) dX2_add_41 (fun H locs hW => ?_)
  refine lv_aload_n hx hb dX2_add_42 rfl (lv_at hl 1 rfl) ?_
  refine g_X2_33 hF hW dX2_add_43 ?_
  refine lv_iload hx hb dX2_add_46 (lv_at hl 0 rfl) ?_
  refine lv_iload hx hb dX2_add_48 (lv_at hl 5 rfl) ?_
  obtain ⟨q8, h⟩ := ck_some h
  refine w_ist hF hW (pC_13 K a d _) q8 (uC_13 K a d _ _ _) dX2_add_50 (fun H locs hW => ?_)
  refine lv_aload_n hx hb dX2_add_51 rfl (lv_at hl 1 rfl) ?_
  refine lv_iload hx hb dX2_add_52 (lv_at hl 0 rfl) ?_
  refine lv_iload_n hx hb dX2_add_54 rfl (lv_at hl 2 rfl) ?_
  obtain ⟨M10, hc11, h⟩ := bm_some h
  refine cV_v (ci := 2) (q0 := 5) (rest := []) hF hW mw_X2_84 (c_X2_inherit l K a d hc11) ⟨Nat.le_of_ble_eq_true rfl, Nat.le_of_ble_eq_true rfl⟩ rfl rfl (pC_5 K a d _) rfl hl.1 rfl (Nat.le_of_ble_eq_true rfl) dX2_add_55 ⟨Nat.le_of_ble_eq_true rfl, Nat.le_of_ble_eq_true rfl⟩ (fun _ H locs hW => ?_)
  refine lv_aload_n hx hb dX2_add_58 rfl (lv_at hl 1 rfl) ?_
  refine lv_iload hx hb dX2_add_59 (lv_at hl 0 rfl) ?_
  refine lv_iload_n hx hb dX2_add_61 rfl (lv_at hl 2 rfl) ?_
  refine lv_bipush (v := (-9)) hx hb dX2_add_62 (by decide) ?_
  refine lv_icmp_ne (tgt := 72) hx hb dX2_add_64 (by decide) (fun q12 => ?_) (fun q12 => ?_)
  · have h := ifn q12 h
    refine lv_iload_n hx hb dX2_add_72 rfl (lv_at hl 2 rfl) ?_
    exact J73 x2 (M.1 106 0) (M.1 106 0) x1 _ _ _ _ h hW (lv_sub hl [1, 3, 0] rfl)
  · have h := ifp q12 h
    refine lv_bipush (v := 40) hx hb dX2_add_67 (by decide) ?_
    refine lv_goto (tgt := 73) hx hb dX2_add_69 (by decide) ?_
    exact J73 x2 (M.1 106 0) (M.1 106 0) 40 _ _ _ _ h hW (lv_sub hl [1, 3, 0] rfl)
set_option maxRecDepth 100000 in
set_option maxHeartbeats 1000000 in
theorem c_X3_setAside (l : Launch) (K : Kx) (a d : Nat → Nat) {M M0 : Mem}   (h : f_X3_setAside M = some M0) : CMv l yX3_setAside cX3_setAside 1 ({ frames := 2, cells := 0, slots := 0, locals := 82 } : Room) K [.ref (a 26)] (wC K a d M) (fun _ => wC K a d M0) := by
  refine cs_v (by decide +kernel) (Nat.le_of_ble_eq_true rfl) ?_
  intro p e s m args below meth c A ls hF hr hk hnm hW hl
  have hx := hF.1
  have hb := hF.2.1
  have hl : lv_has ls 1 [(0, .ref (a 26))] := hl
  obtain ⟨H, hH⟩ : ∃ z, z = s.heap := ⟨_, rfl⟩
  rw [← hH] at hW ⊢
  unfold f_X3_setAside at h
  refine lv_aload_n hx hb dX3_setAside_0 rfl (lv_at hl 0 rfl) ?_
  refine g_X3_18 hF hW dX3_setAside_1 ?_
  refine lv_aload_n hx hb dX3_setAside_4 rfl (lv_at hl 0 rfl) ?_
  refine g_X3_12 hF hW dX3_setAside_5 ?_
  refine lv_aload_n hx hb dX3_setAside_8 rfl (lv_at hl 0 rfl) ?_
  refine g_X3_32 hF hW dX3_setAside_9 ?_
  refine g_X3_36 hF hW dX3_setAside_12 ?_
  obtain ⟨M2, hc3, h⟩ := bm_some h
  refine cV_v (ci := 7) (q0 := 30) (rest := []) hF hW mw_X3_62 (c_X7_take_an l K a d hc3) ⟨Nat.le_of_ble_eq_true rfl, Nat.le_of_ble_eq_true rfl⟩ rfl rfl (pC_30 K a d _) rfl hl.1 rfl (Nat.le_of_ble_eq_true rfl) dX3_setAside_15 ⟨Nat.le_of_ble_eq_true rfl, Nat.le_of_ble_eq_true rfl⟩ (fun _ H locs hW => ?_)
  obtain rfl := Option.some.inj h
  exact rt_v hF hr hk (fun _ => 0) hW dX3_setAside_18
set_option maxRecDepth 100000 in
set_option maxHeartbeats 1000000 in
theorem c_X3_takeAside (l : Launch) (K : Kx) (a d : Nat → Nat) {M M0 : Mem}   (h : f_X3_takeAside M = some M0) : CMv l yX3_takeAside cX3_takeAside 1 ({ frames := 2, cells := 0, slots := 0, locals := 82 } : Room) K [.ref (a 26)] (wC K a d M) (fun _ => wC K a d M0) := by
  refine cs_v (by decide +kernel) (Nat.le_of_ble_eq_true rfl) ?_
  intro p e s m args below meth c A ls hF hr hk hnm hW hl
  have hx := hF.1
  have hb := hF.2.1
  have hl : lv_has ls 1 [(0, .ref (a 26))] := hl
  obtain ⟨H, hH⟩ : ∃ z, z = s.heap := ⟨_, rfl⟩
  rw [← hH] at hW ⊢
  unfold f_X3_takeAside at h
  refine lv_aload_n hx hb dX3_takeAside_0 rfl (lv_at hl 0 rfl) ?_
  refine g_X3_12 hF hW dX3_takeAside_1 ?_
  refine lv_aload_n hx hb dX3_takeAside_4 rfl (lv_at hl 0 rfl) ?_
  refine g_X3_18 hF hW dX3_takeAside_5 ?_
  refine lv_aload_n hx hb dX3_takeAside_8 rfl (lv_at hl 0 rfl) ?_
  refine g_X3_32 hF hW dX3_takeAside_9 ?_
  refine g_X3_36 hF hW dX3_takeAside_12 ?_
  obtain ⟨M2, hc3, h⟩ := bm_some h
  refine cV_v (ci := 7) (q0 := 27) (rest := []) hF hW mw_X3_62 (c_X7_take_na l K a d hc3) ⟨Nat.le_of_ble_eq_true rfl, Nat.le_of_ble_eq_true rfl⟩ rfl rfl (pC_27 K a d _) rfl hl.1 rfl (Nat.le_of_ble_eq_true rfl) dX3_takeAside_15 ⟨Nat.le_of_ble_eq_true rfl, Nat.le_of_ble_eq_true rfl⟩ (fun _ H locs hW => ?_)
  obtain rfl := Option.some.inj h
  exact rt_v hF hr hk (fun _ => 0) hW dX3_takeAside_18
set_option maxRecDepth 100000 in
set_option maxHeartbeats 1000000 in
theorem c_X3_swapRows (l : Launch) (K : Kx) (a d : Nat → Nat) {M M0 : Mem} {x1 : Int32} {x2 : Int32}  (h : f_X3_swapRows M x1 x2 = some M0) : CMv l yX3_swapRows cX3_swapRows 9 ({ frames := 2, cells := 0, slots := 0, locals := 47 } : Room) K [.ref (a 26), .int x1, .int x2] (wC K a d M) (fun _ => wC K a d M0) := by
  refine cs_v (by decide +kernel) (Nat.le_of_ble_eq_true rfl) ?_
  intro p e s m args below meth c A ls hF hr hk hnm hW hl
  have hx := hF.1
  have hb := hF.2.1
  have hl : lv_has ls 9 [(0, .ref (a 26)), (1, .int x1), (2, .int x2)] := hl
  obtain ⟨H, hH⟩ : ∃ z, z = s.heap := ⟨_, rfl⟩
  rw [← hH] at hW ⊢
  have J13 : ∀ (n13 : Nat) (x1 : Int32) (x2 : Int32) (x3 : Int32) (x4 : Int32) (M : Mem) (H : Heap) (locs : List Loc) (ls : Array Slot), f_X3_swapRows_13 n13 x1 x2 x3 x4 M = some M0 → Wd K A s (wC K a d M) H locs → lv_has ls 9 [(0, .ref (a 26)), (1, .int x1), (2, .int x2), (3, .int x3), (4, .int x4)] → W p l e ({ frames := 2, cells := 0, slots := 0, locals := 47 } : Room) s m args below meth c H locs 0 0 (EndV K A (fun _ => wC K a d M0) below args s ({ frames := 2, cells := 0, slots := 0, locals := 47 } : Room)) (F0 m 13 ls []) := by
    intro n13
    induction n13 with
    | zero => intro x1 x2 x3 x4 M H locs ls h; exact absurd h (by simp [f_X3_swapRows_13])
    | succ n13 ih13 =>
      have J79 : ∀ (n79 : Nat) (x1 : Int32) (x2 : Int32) (x3 : Int32) (x4 : Int32) (x5 : Int32) (x6 : Int32) (x7 : Int32) (M : Mem) (H : Heap) (locs : List Loc) (ls : Array Slot), f_X3_swapRows_79 (f_X3_swapRows_13 n13) n79 x1 x2 x3 x4 x5 x6 x7 M = some M0 → Wd K A s (wC K a d M) H locs → lv_has ls 9 [(0, .ref (a 26)), (1, .int x1), (2, .int x2), (3, .int x3), (4, .int x4), (5, .int x5), (6, .int x6), (7, .int x7)] → W p l e ({ frames := 2, cells := 0, slots := 0, locals := 47 } : Room) s m args below meth c H locs 0 0 (EndV K A (fun _ => wC K a d M0) below args s ({ frames := 2, cells := 0, slots := 0, locals := 47 } : Room)) (F0 m 79 ls []) := by
        intro n79
        induction n79 with
        | zero => intro x1 x2 x3 x4 x5 x6 x7 M H locs ls h; exact absurd h (by simp [f_X3_swapRows_79])
        | succ n79 ih79 =>
          intro x1 x2 x3 x4 x5 x6 x7 M H locs ls h hW hl
          rw [f_X3_swapRows_79] at h
          refine lv_iload hx hb dX3_swapRows_79 (lv_at hl 7 rfl) ?_
          refine lv_iconst (v := 5) hx hb dX3_swapRows_81 (by decide) ?_
          refine lv_icmp_gt (tgt := 147) hx hb dX3_swapRows_82 (by decide) (fun q15 => ?_) (fun q15 => ?_)
          · have h := ifp q15 h
            refine lv_iinc (v := (x4 + 1)) (lv' := [(4, .int (x4 + 1)), (0, .ref (a 26)), (1, .int x1), (2, .int x2), (3, .int x3), (5, .int x5), (6, .int x6), (7, .int x7)]) hx hb dX3_swapRows_147 hl (k := 4) rfl rfl (by decide) rfl (fun ls hl => ?_)
            refine lv_goto (tgt := 13) hx hb dX3_swapRows_150 (by decide) ?_
            exact ih13 x1 x2 x3 (x4 + 1) _ _ _ _ h hW (lv_sub hl [1, 2, 3, 4, 0] rfl)
          · have h := ifn q15 h
            refine lv_aload_n hx hb dX3_swapRows_85 rfl (lv_at hl 0 rfl) ?_
            refine g_X3_12 hF hW dX3_swapRows_86 ?_
            refine g_X3_80_now hF hW dX3_swapRows_89 ?_
            refine lv_iload hx hb dX3_swapRows_92 (lv_at hl 5 rfl) ?_
            refine lv_iload hx hb dX3_swapRows_94 (lv_at hl 7 rfl) ?_
            refine lv_iadd hx hb dX3_swapRows_96 ?_
            obtain ⟨q16, h⟩ := ck_some h
            refine w_ild hF hW (pC_28 K a d _) q16 dX3_swapRows_97 ?_
            refine lv_istore (lv' := [(8, .int (M.1 28 (x5 + x7).toNatClampNeg)), (0, .ref (a 26)), (1, .int x1), (2, .int x2), (3, .int x3), (4, .int x4), (5, .int x5), (6, .int x6), (7, .int x7)]) hx hb dX3_swapRows_98 hl (by decide) rfl (fun ls hl => ?_)
            refine lv_aload_n hx hb dX3_swapRows_100 rfl (lv_at hl 1 rfl) ?_
            refine g_X3_12 hF hW dX3_swapRows_101 ?_
            refine g_X3_80_now hF hW dX3_swapRows_104 ?_
            refine lv_iload hx hb dX3_swapRows_107 (lv_at hl 6 rfl) ?_
            refine lv_iload hx hb dX3_swapRows_109 (lv_at hl 8 rfl) ?_
            refine lv_iadd hx hb dX3_swapRows_111 ?_
            refine lv_aload_n hx hb dX3_swapRows_112 rfl (lv_at hl 1 rfl) ?_
            refine g_X3_12 hF hW dX3_swapRows_113 ?_
            refine g_X3_80_now hF hW dX3_swapRows_116 ?_
            refine lv_iload hx hb dX3_swapRows_119 (lv_at hl 7 rfl) ?_
            refine lv_iload hx hb dX3_swapRows_121 (lv_at hl 8 rfl) ?_
            refine lv_iadd hx hb dX3_swapRows_123 ?_
            obtain ⟨q17, h⟩ := ck_some h
            refine w_ild hF hW (pC_28 K a d _) q17 dX3_swapRows_124 ?_
            obtain ⟨q18, h⟩ := ck_some h
            refine w_ist hF hW (pC_28 K a d _) q18 (uC_28 K a d _ _ _) dX3_swapRows_125 (fun H locs hW => ?_)
            refine lv_aload_n hx hb dX3_swapRows_126 rfl (lv_at hl 1 rfl) ?_
            refine g_X3_12 hF hW dX3_swapRows_127 ?_
            refine g_X3_80_now hF hW dX3_swapRows_130 ?_
            refine lv_iload hx hb dX3_swapRows_133 (lv_at hl 7 rfl) ?_
            refine lv_iload hx hb dX3_swapRows_135 (lv_at hl 8 rfl) ?_
            refine lv_iadd hx hb dX3_swapRows_137 ?_
            refine lv_iload hx hb dX3_swapRows_138 (lv_at hl 0 rfl) ?_
            obtain ⟨q19, h⟩ := ck_some h
            refine w_ist hF hW (pC_28 K a d _) q19 (uC_28 K a d _ _ _) dX3_swapRows_140 (fun H locs hW => ?_)
            refine lv_iinc (v := (x7 + 1)) (lv' := [(7, .int (x7 + 1)), (8, .int (M.1 28 (x5 + x7).toNatClampNeg)), (0, .ref (a 26)), (1, .int x1), (2, .int x2), (3, .int x3), (4, .int x4), (5, .int x5), (6, .int x6)]) hx hb dX3_swapRows_141 hl (k := 8) rfl rfl (by decide) rfl (fun ls hl => ?_)
            refine lv_goto (tgt := 79) hx hb dX3_swapRows_144 (by decide) ?_
            exact ih79 x1 x2 x3 x4 x5 x6 (x7 + 1) _ _ _ _ h hW (lv_sub hl [2, 3, 4, 5, 6, 7, 8, 0] rfl)
      intro x1 x2 x3 x4 M H locs ls h hW hl
      rw [f_X3_swapRows_13] at h
      refine lv_iload hx hb dX3_swapRows_13 (lv_at hl 4 rfl) ?_
      refine lv_aload_n hx hb dX3_swapRows_15 rfl (lv_at hl 0 rfl) ?_
      refine g_X3_32 hF hW dX3_swapRows_16 ?_
      refine g_X3_36 hF hW dX3_swapRows_19 ?_
      refine lv_icmp_ge (tgt := 153) hx hb dX3_swapRows_22 (by decide) (fun q2 => ?_) (fun q2 => ?_)
      · have h := ifp q2 h
        obtain rfl := Option.some.inj h
        exact rt_v hF hr hk (fun _ => 0) hW dX3_swapRows_153
      · have h := ifn q2 h
        refine lv_aload_n hx hb dX3_swapRows_25 rfl (lv_at hl 0 rfl) ?_
        refine lv_iload hx hb dX3_swapRows_26 (lv_at hl 4 rfl) ?_
        refine lv_iload_n hx hb dX3_swapRows_28 rfl (lv_at hl 1 rfl) ?_
        refine lv_iload_n hx hb dX3_swapRows_29 rfl (lv_at hl 2 rfl) ?_
        obtain ⟨r3, hc5, h⟩ := bq_some h
        refine cV_i (ci := 3) (q0 := 26) (rest := []) hF hW mw_X3_73 (c_X3_reaches l K a d hc5) ⟨Nat.le_of_ble_eq_true rfl, Nat.le_of_ble_eq_true rfl⟩ rfl rfl (pC_26 K a d _) rfl hl.1 rfl (Nat.le_of_ble_eq_true rfl) dX3_swapRows_30 ⟨Nat.le_of_ble_eq_true rfl, Nat.le_of_ble_eq_true rfl⟩ (fun _ H locs hW => ?_)
        refine lz_ne (tgt := 39) hx hb dX3_swapRows_33 (by decide) (fun q6 => ?_) (fun q6 => ?_)
        · have h := ifp q6 h
          refine lv_aload_n hx hb dX3_swapRows_39 rfl (lv_at hl 0 rfl) ?_
          refine g_X3_12 hF hW dX3_swapRows_40 ?_
          refine lv_iload hx hb dX3_swapRows_43 (lv_at hl 4 rfl) ?_
          refine lv_iload_n hx hb dX3_swapRows_45 rfl (lv_at hl 3 rfl) ?_
          obtain ⟨r7, hc9, h⟩ := bq_some h
          refine cV_i (ci := 7) (q0 := 27) (rest := []) hF hW mw_X3_77 (c_X7_loopRow l K a d hc9) ⟨Nat.le_of_ble_eq_true rfl, Nat.le_of_ble_eq_true rfl⟩ rfl rfl (pC_27 K a d _) rfl hl.1 rfl (Nat.le_of_ble_eq_true rfl) dX3_swapRows_46 ⟨Nat.le_of_ble_eq_true rfl, Nat.le_of_ble_eq_true rfl⟩ (fun _ H locs hW => ?_)
          refine lv_istore (lv' := [(5, .int r7), (0, .ref (a 26)), (1, .int x1), (2, .int x2), (3, .int x3), (4, .int x4)]) hx hb dX3_swapRows_49 hl (by decide) rfl (fun ls hl => ?_)
          refine lv_aload_n hx hb dX3_swapRows_51 rfl (lv_at hl 1 rfl) ?_
          refine g_X3_12 hF hW dX3_swapRows_52 ?_
          refine lv_iload hx hb dX3_swapRows_55 (lv_at hl 5 rfl) ?_
          refine lv_iload_n hx hb dX3_swapRows_57 rfl (lv_at hl 3 rfl) ?_
          obtain ⟨r10, hc12, h⟩ := bq_some h
          refine cV_i (ci := 7) (q0 := 27) (rest := []) hF hW mw_X3_77 (c_X7_loopRow l K a d hc12) ⟨Nat.le_of_ble_eq_true rfl, Nat.le_of_ble_eq_true rfl⟩ rfl rfl (pC_27 K a d _) rfl hl.1 rfl (Nat.le_of_ble_eq_true rfl) dX3_swapRows_58 ⟨Nat.le_of_ble_eq_true rfl, Nat.le_of_ble_eq_true rfl⟩ (fun _ H locs hW => ?_)
          refine lv_istore (lv' := [(6, .int r10), (5, .int r7), (0, .ref (a 26)), (1, .int x1), (2, .int x2), (3, .int x3), (4, .int x4)]) hx hb dX3_swapRows_61 hl (by decide) rfl (fun ls hl => ?_)
          refine lv_iload hx hb dX3_swapRows_63 (lv_at hl 1 rfl) ?_
          refine lv_if_lt (tgt := 147) hx hb dX3_swapRows_65 (by decide) (fun q13 => ?_) (fun q13 => ?_)
          · have h := ifp q13 h
            refine lv_iinc (v := (x4 + 1)) (lv' := [(4, .int (x4 + 1)), (6, .int r10), (5, .int r7), (0, .ref (a 26)), (1, .int x1), (2, .int x2), (3, .int x3)]) hx hb dX3_swapRows_147 hl (k := 6) rfl rfl (by decide) rfl (fun ls hl => ?_)
            refine lv_goto (tgt := 13) hx hb dX3_swapRows_150 (by decide) ?_
            exact ih13 x1 x2 x3 (x4 + 1) _ _ _ _ h hW (lv_sub hl [3, 4, 5, 6, 0] rfl)
          · have h := ifn q13 h
            refine lv_iload hx hb dX3_swapRows_68 (lv_at hl 0 rfl) ?_
            refine lv_if_ge (tgt := 76) hx hb dX3_swapRows_70 (by decide) (fun q14 => ?_) (fun q14 => ?_)
            · have h := ifp q14 h
              refine lv_iconst (v := 0) hx hb dX3_swapRows_76 (by decide) ?_
              refine lv_istore (lv' := [(7, .int 0), (6, .int r10), (5, .int r7), (0, .ref (a 26)), (1, .int x1), (2, .int x2), (3, .int x3), (4, .int x4)]) hx hb dX3_swapRows_77 hl (by decide) rfl (fun ls hl => ?_)
              exact J79 100000 x1 x2 x3 x4 r7 r10 0 _ _ _ _ h hW (lv_sub hl [3, 4, 5, 6, 7, 2, 1, 0] rfl)
            · have h := ifn q14 h
              refine lv_goto (tgt := 147) hx hb dX3_swapRows_73 (by decide) ?_
              refine lv_iinc (v := (x4 + 1)) (lv' := [(4, .int (x4 + 1)), (6, .int r10), (5, .int r7), (0, .ref (a 26)), (1, .int x1), (2, .int x2), (3, .int x3)]) hx hb dX3_swapRows_147 hl (k := 6) rfl rfl (by decide) rfl (fun ls hl => ?_)
              refine lv_goto (tgt := 13) hx hb dX3_swapRows_150 (by decide) ?_
              exact ih13 x1 x2 x3 (x4 + 1) _ _ _ _ h hW (lv_sub hl [3, 4, 5, 6, 0] rfl)
        · have h := ifn q6 h
          refine lv_goto (tgt := 147) hx hb dX3_swapRows_36 (by decide) ?_
          refine lv_iinc (v := (x4 + 1)) (lv' := [(4, .int (x4 + 1)), (0, .ref (a 26)), (1, .int x1), (2, .int x2), (3, .int x3)]) hx hb dX3_swapRows_147 hl (k := 4) rfl rfl (by decide) rfl (fun ls hl => ?_)
          refine lv_goto (tgt := 13) hx hb dX3_swapRows_150 (by decide) ?_
          exact ih13 x1 x2 x3 (x4 + 1) _ _ _ _ h hW (lv_sub hl [1, 2, 3, 4, 0] rfl)
  unfold f_X3_swapRows at h
  refine lv_aload_n hx hb dX3_swapRows_0 rfl (lv_at hl 0 rfl) ?_
  refine g_X3_32 hF hW dX3_swapRows_1 ?_
  refine g_X3_45 hF hW dX3_swapRows_4 ?_
  refine lv_iload_n hx hb dX3_swapRows_7 rfl (lv_at hl 1 rfl) ?_
  obtain ⟨q1, h⟩ := ck_some h
  refine w_ild hF hW (pC_11 K a d _) q1 dX3_swapRows_8 ?_
  refine lv_istore_n (lv' := [(3, .int (M.1 11 x1.toNatClampNeg)), (0, .ref (a 26)), (1, .int x1), (2, .int x2)]) hx hb dX3_swapRows_9 rfl hl (by decide) rfl (fun ls hl => ?_)
  refine lv_iconst (v := 0) hx hb dX3_swapRows_10 (by decide) ?_
  refine lv_istore (lv' := [(4, .int 0), (3, .int (M.1 11 x1.toNatClampNeg)), (0, .ref (a 26)), (1, .int x1), (2, .int x2)]) hx hb dX3_swapRows_11 hl (by decide) rfl (fun ls hl => ?_)
  exact J13 100000 x1 x2 (M.1 11 x1.toNatClampNeg) 0 _ _ _ _ h hW (lv_sub hl [2, 3, 4, 1, 0] rfl)
set_option maxRecDepth 100000 in
set_option maxHeartbeats 1000000 in
theorem c_X3_leanRows (l : Launch) (K : Kx) (a d : Nat → Nat) {M M0 : Mem} {x1 : Int32} {x2 : Int32} {x3 : Int32}  (h : f_X3_leanRows M x1 x2 x3 = some M0) : CMv l yX3_leanRows cX3_leanRows 9 ({ frames := 2, cells := 0, slots := 0, locals := 47 } : Room) K [.ref (a 26), .int x1, .int x2, .int x3] (wC K a d M) (fun _ => wC K a d M0) := by
  refine cs_v (by decide +kernel) (Nat.le_of_ble_eq_true rfl) ?_
  intro p e s m args below meth c A ls hF hr hk hnm hW hl
  have hx := hF.1
  have hb := hF.2.1
  have hl : lv_has ls 9 [(0, .ref (a 26)), (1, .int x1), (2, .int x2), (3, .int x3)] := hl
  obtain ⟨H, hH⟩ : ∃ z, z = s.heap := ⟨_, rfl⟩
  rw [← hH] at hW ⊢
  have J14 : ∀ (n14 : Nat) (x1 : Int32) (x2 : Int32) (x3 : Int32) (x4 : Int32) (x5 : Int32) (M : Mem) (H : Heap) (locs : List Loc) (ls : Array Slot), f_X3_leanRows_14 n14 x1 x2 x3 x4 x5 M = some M0 → Wd K A s (wC K a d M) H locs → lv_has ls 9 [(0, .ref (a 26)), (1, .int x1), (2, .int x2), (3, .int x3), (4, .int x4), (5, .int x5)] → W p l e ({ frames := 2, cells := 0, slots := 0, locals := 47 } : Room) s m args below meth c H locs 0 0 (EndV K A (fun _ => wC K a d M0) below args s ({ frames := 2, cells := 0, slots := 0, locals := 47 } : Room)) (F0 m 14 ls []) := by
    intro n14
    induction n14 with
    | zero => intro x1 x2 x3 x4 x5 M H locs ls h; exact absurd h (by simp [f_X3_leanRows_14])
    | succ n14 ih14 =>
      have J81 : ∀ (n81 : Nat) (x1 : Int32) (x2 : Int32) (x3 : Int32) (x4 : Int32) (x5 : Int32) (x6 : Int32) (x7 : Int32) (x8 : Int32) (M : Mem) (H : Heap) (locs : List Loc) (ls : Array Slot), f_X3_leanRows_81 (f_X3_leanRows_14 n14) n81 x1 x2 x3 x4 x5 x6 x7 x8 M = some M0 → Wd K A s (wC K a d M) H locs → lv_has ls 9 [(0, .ref (a 26)), (1, .int x1), (2, .int x2), (3, .int x3), (4, .int x4), (5, .int x5), (6, .int x6), (7, .int x7), (8, .int x8)] → W p l e ({ frames := 2, cells := 0, slots := 0, locals := 47 } : Room) s m args below meth c H locs 0 0 (EndV K A (fun _ => wC K a d M0) below args s ({ frames := 2, cells := 0, slots := 0, locals := 47 } : Room)) (F0 m 81 ls []) := by
        intro n81
        induction n81 with
        | zero => intro x1 x2 x3 x4 x5 x6 x7 x8 M H locs ls h; exact absurd h (by simp [f_X3_leanRows_81])
        | succ n81 ih81 =>
          intro x1 x2 x3 x4 x5 x6 x7 x8 M H locs ls h hW hl
          rw [f_X3_leanRows_81] at h
          refine lv_iload hx hb dX3_leanRows_81 (lv_at hl 8 rfl) ?_
          refine lv_iconst (v := 5) hx hb dX3_leanRows_83 (by decide) ?_
          refine lv_icmp_ge (tgt := 124) hx hb dX3_leanRows_84 (by decide) (fun q15 => ?_) (fun q15 => ?_)
          · have h := ifp q15 h
            refine lv_iinc (v := (x5 + 1)) (lv' := [(5, .int (x5 + 1)), (0, .ref (a 26)), (1, .int x1), (2, .int x2), (3, .int x3), (4, .int x4), (6, .int x6), (7, .int x7), (8, .int x8)]) hx hb dX3_leanRows_124 hl (k := 5) rfl rfl (by decide) rfl (fun ls hl => ?_)
            refine lv_goto (tgt := 14) hx hb dX3_leanRows_127 (by decide) ?_
            exact ih14 x1 x2 x3 x4 (x5 + 1) _ _ _ _ h hW (lv_sub hl [1, 2, 3, 4, 5, 0] rfl)
          · have h := ifn q15 h
            refine lv_aload_n hx hb dX3_leanRows_87 rfl (lv_at hl 0 rfl) ?_
            refine g_X3_12 hF hW dX3_leanRows_88 ?_
            refine g_X3_80_now hF hW dX3_leanRows_91 ?_
            refine lv_iload hx hb dX3_leanRows_94 (lv_at hl 6 rfl) ?_
            refine lv_iload hx hb dX3_leanRows_96 (lv_at hl 8 rfl) ?_
            refine lv_iadd hx hb dX3_leanRows_98 ?_
            refine lv_dup2_11 hx hb dX3_leanRows_99 rfl rfl ?_
            obtain ⟨q16, h⟩ := ck_some h
            refine w_ild hF hW (pC_28 K a d _) q16 dX3_leanRows_100 ?_
            refine lv_iload_n hx hb dX3_leanRows_101 rfl (lv_at hl 3 rfl) ?_
            refine lv_aload_n hx hb dX3_leanRows_102 rfl (lv_at hl 0 rfl) ?_
            refine g_X3_12 hF hW dX3_leanRows_103 ?_
            refine g_X3_80_now hF hW dX3_leanRows_106 ?_
            refine lv_iload hx hb dX3_leanRows_109 (lv_at hl 7 rfl) ?_
            refine lv_iload hx hb dX3_leanRows_111 (lv_at hl 8 rfl) ?_
            refine lv_iadd hx hb dX3_leanRows_113 ?_
            obtain ⟨q17, h⟩ := ck_some h
            refine w_ild hF hW (pC_28 K a d _) q17 dX3_leanRows_114 ?_
            refine lv_imul hx hb dX3_leanRows_115 ?_
            refine lv_iadd hx hb dX3_leanRows_116 ?_
            obtain ⟨q18, h⟩ := ck_some h
            refine w_ist hF hW (pC_28 K a d _) q18 (uC_28 K a d _ _ _) dX3_leanRows_117 (fun H locs hW => ?_)
            refine lv_iinc (v := (x8 + 1)) (lv' := [(8, .int (x8 + 1)), (0, .ref (a 26)), (1, .int x1), (2, .int x2), (3, .int x3), (4, .int x4), (5, .int x5), (6, .int x6), (7, .int x7)]) hx hb dX3_leanRows_118 hl (k := 8) rfl rfl (by decide) rfl (fun ls hl => ?_)
            refine lv_goto (tgt := 81) hx hb dX3_leanRows_121 (by decide) ?_
            exact ih81 x1 x2 x3 x4 x5 x6 x7 (x8 + 1) _ _ _ _ h hW (lv_sub hl [1, 2, 3, 4, 5, 6, 7, 8, 0] rfl)
      intro x1 x2 x3 x4 x5 M H locs ls h hW hl
      rw [f_X3_leanRows_14] at h
      refine lv_iload hx hb dX3_leanRows_14 (lv_at hl 5 rfl) ?_
      refine lv_aload_n hx hb dX3_leanRows_16 rfl (lv_at hl 0 rfl) ?_
      refine g_X3_32 hF hW dX3_leanRows_17 ?_
      refine g_X3_36 hF hW dX3_leanRows_20 ?_
      refine lv_icmp_ge (tgt := 130) hx hb dX3_leanRows_23 (by decide) (fun q2 => ?_) (fun q2 => ?_)
      · have h := ifp q2 h
        obtain rfl := Option.some.inj h
        exact rt_v hF hr hk (fun _ => 0) hW dX3_leanRows_130
      · have h := ifn q2 h
        refine lv_aload_n hx hb dX3_leanRows_26 rfl (lv_at hl 0 rfl) ?_
        refine lv_iload hx hb dX3_leanRows_27 (lv_at hl 5 rfl) ?_
        refine lv_iload_n hx hb dX3_leanRows_29 rfl (lv_at hl 1 rfl) ?_
        refine lv_iload_n hx hb dX3_leanRows_30 rfl (lv_at hl 2 rfl) ?_
        obtain ⟨r3, hc5, h⟩ := bq_some h
        refine cV_i (ci := 3) (q0 := 26) (rest := []) hF hW mw_X3_73 (c_X3_reaches l K a d hc5) ⟨Nat.le_of_ble_eq_true rfl, Nat.le_of_ble_eq_true rfl⟩ rfl rfl (pC_26 K a d _) rfl hl.1 rfl (Nat.le_of_ble_eq_true rfl) dX3_leanRows_31 ⟨Nat.le_of_ble_eq_true rfl, Nat.le_of_ble_eq_true rfl⟩ (fun _ H locs hW => ?_)
        refine lz_ne (tgt := 40) hx hb dX3_leanRows_34 (by decide) (fun q6 => ?_) (fun q6 => ?_)
        · have h := ifp q6 h
          refine lv_aload_n hx hb dX3_leanRows_40 rfl (lv_at hl 0 rfl) ?_
          refine g_X3_12 hF hW dX3_leanRows_41 ?_
          refine lv_iload hx hb dX3_leanRows_44 (lv_at hl 5 rfl) ?_
          refine lv_iload hx hb dX3_leanRows_46 (lv_at hl 4 rfl) ?_
          obtain ⟨r7, hc9, h⟩ := bq_some h
          refine cV_i (ci := 7) (q0 := 27) (rest := []) hF hW mw_X3_77 (c_X7_loopRow l K a d hc9) ⟨Nat.le_of_ble_eq_true rfl, Nat.le_of_ble_eq_true rfl⟩ rfl rfl (pC_27 K a d _) rfl hl.1 rfl (Nat.le_of_ble_eq_true rfl) dX3_leanRows_48 ⟨Nat.le_of_ble_eq_true rfl, Nat.le_of_ble_eq_true rfl⟩ (fun _ H locs hW => ?_)
          refine lv_istore (lv' := [(6, .int r7), (0, .ref (a 26)), (1, .int x1), (2, .int x2), (3, .int x3), (4, .int x4), (5, .int x5)]) hx hb dX3_leanRows_51 hl (by decide) rfl (fun ls hl => ?_)
          refine lv_aload_n hx hb dX3_leanRows_53 rfl (lv_at hl 1 rfl) ?_
          refine g_X3_12 hF hW dX3_leanRows_54 ?_
          refine lv_iload hx hb dX3_leanRows_57 (lv_at hl 6 rfl) ?_
          refine lv_iload_n hx hb dX3_leanRows_59 rfl (lv_at hl 3 rfl) ?_
          obtain ⟨r10, hc12, h⟩ := bq_some h
          refine cV_i (ci := 7) (q0 := 27) (rest := []) hF hW mw_X3_77 (c_X7_loopRow l K a d hc12) ⟨Nat.le_of_ble_eq_true rfl, Nat.le_of_ble_eq_true rfl⟩ rfl rfl (pC_27 K a d _) rfl hl.1 rfl (Nat.le_of_ble_eq_true rfl) dX3_leanRows_60 ⟨Nat.le_of_ble_eq_true rfl, Nat.le_of_ble_eq_true rfl⟩ (fun _ H locs hW => ?_)
          refine lv_istore (lv' := [(7, .int r10), (6, .int r7), (0, .ref (a 26)), (1, .int x1), (2, .int x2), (3, .int x3), (4, .int x4), (5, .int x5)]) hx hb dX3_leanRows_63 hl (by decide) rfl (fun ls hl => ?_)
          refine lv_iload hx hb dX3_leanRows_65 (lv_at hl 1 rfl) ?_
          refine lv_if_lt (tgt := 124) hx hb dX3_leanRows_67 (by decide) (fun q13 => ?_) (fun q13 => ?_)
          · have h := ifp q13 h
            refine lv_iinc (v := (x5 + 1)) (lv' := [(5, .int (x5 + 1)), (7, .int r10), (6, .int r7), (0, .ref (a 26)), (1, .int x1), (2, .int x2), (3, .int x3), (4, .int x4)]) hx hb dX3_leanRows_124 hl (k := 7) rfl rfl (by decide) rfl (fun ls hl => ?_)
            refine lv_goto (tgt := 14) hx hb dX3_leanRows_127 (by decide) ?_
            exact ih14 x1 x2 x3 x4 (x5 + 1) _ _ _ _ h hW (lv_sub hl [3, 4, 5, 6, 7, 0] rfl)
          · have h := ifn q13 h
            refine lv_iload hx hb dX3_leanRows_70 (lv_at hl 0 rfl) ?_
            refine lv_if_ge (tgt := 78) hx hb dX3_leanRows_72 (by decide) (fun q14 => ?_) (fun q14 => ?_)
            · have h := ifp q14 h
              refine lv_iconst (v := 0) hx hb dX3_leanRows_78 (by decide) ?_
              refine lv_istore (lv' := [(8, .int 0), (7, .int r10), (6, .int r7), (0, .ref (a 26)), (1, .int x1), (2, .int x2), (3, .int x3), (4, .int x4), (5, .int x5)]) hx hb dX3_leanRows_79 hl (by decide) rfl (fun ls hl => ?_)
              exact J81 100000 x1 x2 x3 x4 x5 r7 r10 0 _ _ _ _ h hW (lv_sub hl [3, 4, 5, 6, 7, 8, 2, 1, 0] rfl)
            · have h := ifn q14 h
              refine lv_goto (tgt := 124) hx hb dX3_leanRows_75 (by decide) ?_
              refine lv_iinc (v := (x5 + 1)) (lv' := [(5, .int (x5 + 1)), (7, .int r10), (6, .int r7), (0, .ref (a 26)), (1, .int x1), (2, .int x2), (3, .int x3), (4, .int x4)]) hx hb dX3_leanRows_124 hl (k := 7) rfl rfl (by decide) rfl (fun ls hl => ?_)
              refine lv_goto (tgt := 14) hx hb dX3_leanRows_127 (by decide) ?_
              exact ih14 x1 x2 x3 x4 (x5 + 1) _ _ _ _ h hW (lv_sub hl [3, 4, 5, 6, 7, 0] rfl)
        · have h := ifn q6 h
          refine lv_goto (tgt := 124) hx hb dX3_leanRows_37 (by decide) ?_
          refine lv_iinc (v := (x5 + 1)) (lv' := [(5, .int (x5 + 1)), (0, .ref (a 26)), (1, .int x1), (2, .int x2), (3, .int x3), (4, .int x4)]) hx hb dX3_leanRows_124 hl (k := 5) rfl rfl (by decide) rfl (fun ls hl => ?_)
          refine lv_goto (tgt := 14) hx hb dX3_leanRows_127 (by decide) ?_
          exact ih14 x1 x2 x3 x4 (x5 + 1) _ _ _ _ h hW (lv_sub hl [1, 2, 3, 4, 5, 0] rfl)
  unfold f_X3_leanRows at h
  refine lv_aload_n hx hb dX3_leanRows_0 rfl (lv_at hl 0 rfl) ?_
  refine g_X3_32 hF hW dX3_leanRows_1 ?_
  refine g_X3_45 hF hW dX3_leanRows_4 ?_
  refine lv_iload_n hx hb dX3_leanRows_7 rfl (lv_at hl 1 rfl) ?_
  obtain ⟨q1, h⟩ := ck_some h
  refine w_ild hF hW (pC_11 K a d _) q1 dX3_leanRows_8 ?_
  refine lv_istore (lv' := [(4, .int (M.1 11 x1.toNatClampNeg)), (0, .ref (a 26)), (1, .int x1), (2, .int x2), (3, .int x3)]) hx hb dX3_leanRows_9 hl (by decide) rfl (fun ls hl => ?_)
  refine lv_iconst (v := 0) hx hb dX3_leanRows_11 (by decide) ?_
  refine lv_istore (lv' := [(5, .int 0), (4, .int (M.1 11 x1.toNatClampNeg)), (0, .ref (a 26)), (1, .int x1), (2, .int x2), (3, .int x3)]) hx hb dX3_leanRows_12 hl (by decide) rfl (fun ls hl => ?_)
  exact J14 100000 x1 x2 x3 (M.1 11 x1.toNatClampNeg) 0 _ _ _ _ h hW (lv_sub hl [2, 3, 4, 5, 1, 0] rfl)
set_option maxRecDepth 100000 in
set_option maxHeartbeats 1000000 in
theorem c_X3_turnSigns (l : Launch) (K : Kx) (a d : Nat → Nat) {M M0 : Mem} {x1 : Int32}  (h : f_X3_turnSigns M x1 = some M0) : CMv l yX3_turnSigns cX3_turnSigns 6 ({ frames := 2, cells := 0, slots := 0, locals := 46 } : Room) K [.ref (a 26), .int x1] (wC K a d M) (fun _ => wC K a d M0) := by
  refine cs_v (by decide +kernel) (Nat.le_of_ble_eq_true rfl) ?_
  intro p e s m args below meth c A ls hF hr hk hnm hW hl
  have hx := hF.1
  have hb := hF.2.1
  have hl : lv_has ls 6 [(0, .ref (a 26)), (1, .int x1)] := hl
  obtain ⟨H, hH⟩ : ∃ z, z = s.heap := ⟨_, rfl⟩
  rw [← hH] at hW ⊢
  have J12 : ∀ (n12 : Nat) (x1 : Int32) (x2 : Int32) (x3 : Int32) (M : Mem) (H : Heap) (locs : List Loc) (ls : Array Slot), f_X3_turnSigns_12 n12 x1 x2 x3 M = some M0 → Wd K A s (wC K a d M) H locs → lv_has ls 6 [(0, .ref (a 26)), (1, .int x1), (2, .int x2), (3, .int x3)] → W p l e ({ frames := 2, cells := 0, slots := 0, locals := 46 } : Room) s m args below meth c H locs 0 0 (EndV K A (fun _ => wC K a d M0) below args s ({ frames := 2, cells := 0, slots := 0, locals := 46 } : Room)) (F0 m 12 ls []) := by
    intro n12
    induction n12 with
    | zero => intro x1 x2 x3 M H locs ls h; exact absurd h (by simp [f_X3_turnSigns_12])
    | succ n12 ih12 =>
      have J60 : ∀ (n60 : Nat) (x1 : Int32) (x2 : Int32) (x3 : Int32) (x4 : Int32) (x5 : Int32) (M : Mem) (H : Heap) (locs : List Loc) (ls : Array Slot), f_X3_turnSigns_60 (f_X3_turnSigns_12 n12) n60 x1 x2 x3 x4 x5 M = some M0 → Wd K A s (wC K a d M) H locs → lv_has ls 6 [(0, .ref (a 26)), (1, .int x1), (2, .int x2), (3, .int x3), (4, .int x4), (5, .int x5)] → W p l e ({ frames := 2, cells := 0, slots := 0, locals := 46 } : Room) s m args below meth c H locs 0 0 (EndV K A (fun _ => wC K a d M0) below args s ({ frames := 2, cells := 0, slots := 0, locals := 46 } : Room)) (F0 m 60 ls []) := by
        intro n60
        induction n60 with
        | zero => intro x1 x2 x3 x4 x5 M H locs ls h; exact absurd h (by simp [f_X3_turnSigns_60])
        | succ n60 ih60 =>
          intro x1 x2 x3 x4 x5 M H locs ls h hW hl
          rw [f_X3_turnSigns_60] at h
          refine lv_iload hx hb dX3_turnSigns_60 (lv_at hl 5 rfl) ?_
          refine lv_iconst (v := 5) hx hb dX3_turnSigns_62 (by decide) ?_
          refine lv_icmp_ge (tgt := 99) hx hb dX3_turnSigns_63 (by decide) (fun q11 => ?_) (fun q11 => ?_)
          · have h := ifp q11 h
            refine lv_iinc (v := (x3 + 1)) (lv' := [(3, .int (x3 + 1)), (0, .ref (a 26)), (1, .int x1), (2, .int x2), (4, .int x4), (5, .int x5)]) hx hb dX3_turnSigns_99 hl (k := 3) rfl rfl (by decide) rfl (fun ls hl => ?_)
            refine lv_goto (tgt := 12) hx hb dX3_turnSigns_102 (by decide) ?_
            exact ih12 x1 x2 (x3 + 1) _ _ _ _ h hW (lv_sub hl [1, 2, 3, 0] rfl)
          · have h := ifn q11 h
            refine lv_aload_n hx hb dX3_turnSigns_66 rfl (lv_at hl 0 rfl) ?_
            refine g_X3_12 hF hW dX3_turnSigns_67 ?_
            refine g_X3_80_now hF hW dX3_turnSigns_70 ?_
            refine lv_iload hx hb dX3_turnSigns_73 (lv_at hl 4 rfl) ?_
            refine lv_iload hx hb dX3_turnSigns_75 (lv_at hl 5 rfl) ?_
            refine lv_iadd hx hb dX3_turnSigns_77 ?_
            refine lv_aload_n hx hb dX3_turnSigns_78 rfl (lv_at hl 0 rfl) ?_
            refine g_X3_12 hF hW dX3_turnSigns_79 ?_
            refine g_X3_80_now hF hW dX3_turnSigns_82 ?_
            refine lv_iload hx hb dX3_turnSigns_85 (lv_at hl 4 rfl) ?_
            refine lv_iload hx hb dX3_turnSigns_87 (lv_at hl 5 rfl) ?_
            refine lv_iadd hx hb dX3_turnSigns_89 ?_
            obtain ⟨q12, h⟩ := ck_some h
            refine w_ild hF hW (pC_28 K a d _) q12 dX3_turnSigns_90 ?_
            refine lv_ineg hx hb dX3_turnSigns_91 ?_
            obtain ⟨q13, h⟩ := ck_some h
            refine w_ist hF hW (pC_28 K a d _) q13 (uC_28 K a d _ _ _) dX3_turnSigns_92 (fun H locs hW => ?_)
            refine lv_iinc (v := (x5 + 1)) (lv' := [(5, .int (x5 + 1)), (0, .ref (a 26)), (1, .int x1), (2, .int x2), (3, .int x3), (4, .int x4)]) hx hb dX3_turnSigns_93 hl (k := 5) rfl rfl (by decide) rfl (fun ls hl => ?_)
            refine lv_goto (tgt := 60) hx hb dX3_turnSigns_96 (by decide) ?_
            exact ih60 x1 x2 x3 x4 (x5 + 1) _ _ _ _ h hW (lv_sub hl [1, 2, 3, 4, 5, 0] rfl)
      intro x1 x2 x3 M H locs ls h hW hl
      rw [f_X3_turnSigns_12] at h
      refine lv_iload_n hx hb dX3_turnSigns_12 rfl (lv_at hl 3 rfl) ?_
      refine lv_aload_n hx hb dX3_turnSigns_13 rfl (lv_at hl 0 rfl) ?_
      refine g_X3_32 hF hW dX3_turnSigns_14 ?_
      refine g_X3_36 hF hW dX3_turnSigns_17 ?_
      refine lv_icmp_ge (tgt := 105) hx hb dX3_turnSigns_20 (by decide) (fun q2 => ?_) (fun q2 => ?_)
      · have h := ifp q2 h
        obtain rfl := Option.some.inj h
        exact rt_v hF hr hk (fun _ => 0) hW dX3_turnSigns_105
      · have h := ifn q2 h
        refine lv_aload_n hx hb dX3_turnSigns_23 rfl (lv_at hl 0 rfl) ?_
        refine g_X3_32 hF hW dX3_turnSigns_24 ?_
        refine lv_iload_n hx hb dX3_turnSigns_27 rfl (lv_at hl 3 rfl) ?_
        refine lv_iload_n hx hb dX3_turnSigns_28 rfl (lv_at hl 1 rfl) ?_
        obtain ⟨r3, hc5, h⟩ := bq_some h
        refine cV_i (ci := 2) (q0 := 5) (rest := []) hF hW mw_X3_66 (c_X2_stands l K a d hc5) ⟨Nat.le_of_ble_eq_true rfl, Nat.le_of_ble_eq_true rfl⟩ rfl rfl (pC_5 K a d _) rfl hl.1 rfl (Nat.le_of_ble_eq_true rfl) dX3_turnSigns_29 ⟨Nat.le_of_ble_eq_true rfl, Nat.le_of_ble_eq_true rfl⟩ (fun _ H locs hW => ?_)
        refine lz_ne (tgt := 38) hx hb dX3_turnSigns_32 (by decide) (fun q6 => ?_) (fun q6 => ?_)
        · have h := ifp q6 h
          refine lv_aload_n hx hb dX3_turnSigns_38 rfl (lv_at hl 0 rfl) ?_
          refine g_X3_12 hF hW dX3_turnSigns_39 ?_
          refine lv_iload_n hx hb dX3_turnSigns_42 rfl (lv_at hl 3 rfl) ?_
          refine lv_iload_n hx hb dX3_turnSigns_43 rfl (lv_at hl 2 rfl) ?_
          obtain ⟨r7, hc9, h⟩ := bq_some h
          refine cV_i (ci := 7) (q0 := 27) (rest := []) hF hW mw_X3_77 (c_X7_loopRow l K a d hc9) ⟨Nat.le_of_ble_eq_true rfl, Nat.le_of_ble_eq_true rfl⟩ rfl rfl (pC_27 K a d _) rfl hl.1 rfl (Nat.le_of_ble_eq_true rfl) dX3_turnSigns_44 ⟨Nat.le_of_ble_eq_true rfl, Nat.le_of_ble_eq_true rfl⟩ (fun _ H locs hW => ?_)
          refine lv_istore (lv' := [(4, .int r7), (0, .ref (a 26)), (1, .int x1), (2, .int x2), (3, .int x3)]) hx hb dX3_turnSigns_47 hl (by decide) rfl (fun ls hl => ?_)
          refine lv_iload hx hb dX3_turnSigns_49 (lv_at hl 0 rfl) ?_
          refine lv_if_ge (tgt := 57) hx hb dX3_turnSigns_51 (by decide) (fun q10 => ?_) (fun q10 => ?_)
          · have h := ifp q10 h
            refine lv_iconst (v := 0) hx hb dX3_turnSigns_57 (by decide) ?_
            refine lv_istore (lv' := [(5, .int 0), (4, .int r7), (0, .ref (a 26)), (1, .int x1), (2, .int x2), (3, .int x3)]) hx hb dX3_turnSigns_58 hl (by decide) rfl (fun ls hl => ?_)
            exact J60 100000 x1 x2 x3 r7 0 _ _ _ _ h hW (lv_sub hl [2, 3, 4, 5, 1, 0] rfl)
          · have h := ifn q10 h
            refine lv_goto (tgt := 99) hx hb dX3_turnSigns_54 (by decide) ?_
            refine lv_iinc (v := (x3 + 1)) (lv' := [(3, .int (x3 + 1)), (4, .int r7), (0, .ref (a 26)), (1, .int x1), (2, .int x2)]) hx hb dX3_turnSigns_99 hl (k := 4) rfl rfl (by decide) rfl (fun ls hl => ?_)
            refine lv_goto (tgt := 12) hx hb dX3_turnSigns_102 (by decide) ?_
            exact ih12 x1 x2 (x3 + 1) _ _ _ _ h hW (lv_sub hl [2, 3, 4, 0] rfl)
        · have h := ifn q6 h
          refine lv_goto (tgt := 99) hx hb dX3_turnSigns_35 (by decide) ?_
          refine lv_iinc (v := (x3 + 1)) (lv' := [(3, .int (x3 + 1)), (0, .ref (a 26)), (1, .int x1), (2, .int x2)]) hx hb dX3_turnSigns_99 hl (k := 3) rfl rfl (by decide) rfl (fun ls hl => ?_)
          refine lv_goto (tgt := 12) hx hb dX3_turnSigns_102 (by decide) ?_
          exact ih12 x1 x2 (x3 + 1) _ _ _ _ h hW (lv_sub hl [1, 2, 3, 0] rfl)
  unfold f_X3_turnSigns at h
  refine lv_aload_n hx hb dX3_turnSigns_0 rfl (lv_at hl 0 rfl) ?_
  refine g_X3_32 hF hW dX3_turnSigns_1 ?_
  refine g_X3_45 hF hW dX3_turnSigns_4 ?_
  refine lv_iload_n hx hb dX3_turnSigns_7 rfl (lv_at hl 1 rfl) ?_
  obtain ⟨q1, h⟩ := ck_some h
  refine w_ild hF hW (pC_11 K a d _) q1 dX3_turnSigns_8 ?_
  refine lv_istore_n (lv' := [(2, .int (M.1 11 x1.toNatClampNeg)), (0, .ref (a 26)), (1, .int x1)]) hx hb dX3_turnSigns_9 rfl hl (by decide) rfl (fun ls hl => ?_)
  refine lv_iconst (v := 0) hx hb dX3_turnSigns_10 (by decide) ?_
  refine lv_istore_n (lv' := [(3, .int 0), (2, .int (M.1 11 x1.toNatClampNeg)), (0, .ref (a 26)), (1, .int x1)]) hx hb dX3_turnSigns_11 rfl hl (by decide) rfl (fun ls hl => ?_)
  exact J12 100000 x1 (M.1 11 x1.toNatClampNeg) 0 _ _ _ _ h hW (lv_sub hl [2, 3, 1, 0] rfl)
set_option maxRecDepth 100000 in
set_option maxHeartbeats 1000000 in
theorem c_X3_tileFits (l : Launch) (K : Kx) (a d : Nat → Nat) {M : Mem} {x1 : Int32} {x2 : Int32} {x3 : Int32} {r0 : Bool} (h : f_X3_tileFits M x1 x2 x3 = some r0) : CMi l yX3_tileFits cX3_tileFits 8 (some .boolean) ({ frames := 2, cells := 0, slots := 0, locals := 47 } : Room) K [.ref (a 26), .int x1, .int x2, .int x3] (wC K a d M) (fun _ => wC K a d M) (bI r0) := by
  refine cs_i (by decide +kernel) (Nat.le_of_ble_eq_true rfl) ?_
  intro p e s m args below meth c A ls hF hr hk hnm hW hl
  have hx := hF.1
  have hb := hF.2.1
  have hl : lv_has ls 8 [(0, .ref (a 26)), (1, .int x1), (2, .int x2), (3, .int x3)] := hl
  obtain ⟨H, hH⟩ : ∃ z, z = s.heap := ⟨_, rfl⟩
  rw [← hH] at hW ⊢
  have J14 : ∀ (n14 : Nat) (x1 : Int32) (x2 : Int32) (x3 : Int32) (x4 : Int32) (x5 : Int32) (M : Mem) (H : Heap) (locs : List Loc) (ls : Array Slot), f_X3_tileFits_14 n14 x1 x2 x3 x4 x5 M = some r0 → Wd K A s (wC K a d M) H locs → lv_has ls 8 [(0, .ref (a 26)), (1, .int x1), (2, .int x2), (3, .int x3), (4, .int x4), (5, .int x5)] → W p l e ({ frames := 2, cells := 0, slots := 0, locals := 47 } : Room) s m args below meth c H locs 0 0 (EndI K A (fun _ => wC K a d M) (bI r0) below args s ({ frames := 2, cells := 0, slots := 0, locals := 47 } : Room)) (F0 m 14 ls []) := by
    intro n14
    induction n14 with
    | zero => intro x1 x2 x3 x4 x5 M H locs ls h; exact absurd h (by simp [f_X3_tileFits_14])
    | succ n14 ih14 =>
      have J67 : ∀ (n67 : Nat) (x1 : Int32) (x2 : Int32) (x3 : Int32) (x4 : Int32) (x5 : Int32) (x6 : Int32) (M : Mem) (H : Heap) (locs : List Loc) (ls : Array Slot), f_X3_tileFits_67 (f_X3_tileFits_14 n14) n67 x1 x2 x3 x4 x5 x6 M = some r0 → Wd K A s (wC K a d M) H locs → lv_has ls 8 [(0, .ref (a 26)), (1, .int x1), (2, .int x2), (3, .int x3), (4, .int x4), (5, .int x5), (6, .int x6)] → W p l e ({ frames := 2, cells := 0, slots := 0, locals := 47 } : Room) s m args below meth c H locs 0 0 (EndI K A (fun _ => wC K a d M) (bI r0) below args s ({ frames := 2, cells := 0, slots := 0, locals := 47 } : Room)) (F0 m 67 ls []) := by
        intro n67
        induction n67 with
        | zero => intro x1 x2 x3 x4 x5 x6 M H locs ls h; exact absurd h (by simp [f_X3_tileFits_67])
        | succ n67 ih67 =>
          intro x1 x2 x3 x4 x5 x6 M H locs ls h hW hl
          rw [f_X3_tileFits_67] at h
          refine lv_iload hx hb dX3_tileFits_67 (lv_at hl 6 rfl) ?_
          refine lv_iload_n hx hb dX3_tileFits_69 rfl (lv_at hl 2 rfl) ?_
          refine lv_icmp_ge (tgt := 122) hx hb dX3_tileFits_70 (by decide) (fun q9 => ?_) (fun q9 => ?_)
          · have h := ifp q9 h
            refine lv_iinc (v := (x5 + 1)) (lv' := [(5, .int (x5 + 1)), (0, .ref (a 26)), (1, .int x1), (2, .int x2), (3, .int x3), (4, .int x4), (6, .int x6)]) hx hb dX3_tileFits_122 hl (k := 5) rfl rfl (by decide) rfl (fun ls hl => ?_)
            refine lv_goto (tgt := 14) hx hb dX3_tileFits_125 (by decide) ?_
            exact ih14 x1 x2 x3 x4 (x5 + 1) _ _ _ _ h hW (lv_sub hl [1, 2, 3, 4, 5, 0] rfl)
          · have h := ifn q9 h
            refine lv_aload_n hx hb dX3_tileFits_73 rfl (lv_at hl 0 rfl) ?_
            refine g_X3_12 hF hW dX3_tileFits_74 ?_
            refine lv_iload hx hb dX3_tileFits_77 (lv_at hl 5 rfl) ?_
            refine lv_iload hx hb dX3_tileFits_79 (lv_at hl 4 rfl) ?_
            refine lv_iload hx hb dX3_tileFits_81 (lv_at hl 6 rfl) ?_
            refine lv_iadd hx hb dX3_tileFits_83 ?_
            obtain ⟨r10, hc12, h⟩ := bq_some h
            refine cV_i (ci := 7) (q0 := 27) (rest := []) hF hW mw_X3_77 (c_X7_loopRow l K a d hc12) ⟨Nat.le_of_ble_eq_true rfl, Nat.le_of_ble_eq_true rfl⟩ rfl rfl (pC_27 K a d _) rfl hl.1 rfl (Nat.le_of_ble_eq_true rfl) dX3_tileFits_84 ⟨Nat.le_of_ble_eq_true rfl, Nat.le_of_ble_eq_true rfl⟩ (fun _ H locs hW => ?_)
            refine lv_istore (lv' := [(7, .int r10), (0, .ref (a 26)), (1, .int x1), (2, .int x2), (3, .int x3), (4, .int x4), (5, .int x5), (6, .int x6)]) hx hb dX3_tileFits_87 hl (by decide) rfl (fun ls hl => ?_)
            refine lv_iload hx hb dX3_tileFits_89 (lv_at hl 0 rfl) ?_
            refine lv_if_lt (tgt := 116) hx hb dX3_tileFits_91 (by decide) (fun q13 => ?_) (fun q13 => ?_)
            · have h := ifp q13 h
              refine lv_iinc (v := (x6 + 1)) (lv' := [(6, .int (x6 + 1)), (7, .int r10), (0, .ref (a 26)), (1, .int x1), (2, .int x2), (3, .int x3), (4, .int x4), (5, .int x5)]) hx hb dX3_tileFits_116 hl (k := 7) rfl rfl (by decide) rfl (fun ls hl => ?_)
              refine lv_goto (tgt := 67) hx hb dX3_tileFits_119 (by decide) ?_
              exact ih67 x1 x2 x3 x4 x5 (x6 + 1) _ _ _ _ h hW (lv_sub hl [2, 3, 4, 5, 6, 7, 0] rfl)
            · have h := ifn q13 h
              refine lv_aload_n hx hb dX3_tileFits_94 rfl (lv_at hl 1 rfl) ?_
              refine g_X3_12 hF hW dX3_tileFits_95 ?_
              refine g_X3_80_now hF hW dX3_tileFits_98 ?_
              refine lv_iload hx hb dX3_tileFits_101 (lv_at hl 0 rfl) ?_
              refine lv_iconst (v := 5) hx hb dX3_tileFits_103 (by decide) ?_
              refine lv_iadd hx hb dX3_tileFits_104 ?_
              obtain ⟨q14, h⟩ := ck_some h
              refine w_ild hF hW (pC_28 K a d _) q14 dX3_tileFits_105 ?_
              refine lv_iload_n hx hb dX3_tileFits_106 rfl (lv_at hl 4 rfl) ?_
              refine lv_imul hx hb dX3_tileFits_107 ?_
              refine lv_sipush (v := 400) hx hb dX3_tileFits_108 (by decide) ?_
              refine lv_icmp_le (tgt := 116) hx hb dX3_tileFits_111 (by decide) (fun q15 => ?_) (fun q15 => ?_)
              · have h := ifp q15 h
                refine lv_iinc (v := (x6 + 1)) (lv' := [(6, .int (x6 + 1)), (7, .int r10), (0, .ref (a 26)), (1, .int x1), (2, .int x2), (3, .int x3), (4, .int x4), (5, .int x5)]) hx hb dX3_tileFits_116 hl (k := 7) rfl rfl (by decide) rfl (fun ls hl => ?_)
                refine lv_goto (tgt := 67) hx hb dX3_tileFits_119 (by decide) ?_
                exact ih67 x1 x2 x3 x4 x5 (x6 + 1) _ _ _ _ h hW (lv_sub hl [2, 3, 4, 5, 6, 7, 0] rfl)
              · have h := ifn q15 h
                refine lv_iconst (v := 0) hx hb dX3_tileFits_114 (by decide) ?_
                obtain rfl := Option.some.inj h
                exact rt_i hF hr hk (bI_n false) (fun _ => 0) hW rfl dX3_tileFits_115
      intro x1 x2 x3 x4 x5 M H locs ls h hW hl
      rw [f_X3_tileFits_14] at h
      refine lv_iload hx hb dX3_tileFits_14 (lv_at hl 5 rfl) ?_
      refine lv_aload_n hx hb dX3_tileFits_16 rfl (lv_at hl 0 rfl) ?_
      refine g_X3_32 hF hW dX3_tileFits_17 ?_
      refine g_X3_36 hF hW dX3_tileFits_20 ?_
      refine lv_icmp_ge (tgt := 128) hx hb dX3_tileFits_23 (by decide) (fun q2 => ?_) (fun q2 => ?_)
      · have h := ifp q2 h
        refine lv_iconst (v := 1) hx hb dX3_tileFits_128 (by decide) ?_
        obtain rfl := Option.some.inj h
        exact rt_i hF hr hk (bI_n true) (fun _ => 0) hW rfl dX3_tileFits_129
      · have h := ifn q2 h
        refine lv_aload_n hx hb dX3_tileFits_26 rfl (lv_at hl 0 rfl) ?_
        refine lv_iload hx hb dX3_tileFits_27 (lv_at hl 5 rfl) ?_
        refine lv_iload_n hx hb dX3_tileFits_29 rfl (lv_at hl 1 rfl) ?_
        refine lv_iload hx hb dX3_tileFits_30 (lv_at hl 4 rfl) ?_
        refine lv_iload_n hx hb dX3_tileFits_32 rfl (lv_at hl 2 rfl) ?_
        refine lv_iadd hx hb dX3_tileFits_33 ?_
        refine lv_iconst (v := 1) hx hb dX3_tileFits_34 (by decide) ?_
        refine lv_isub hx hb dX3_tileFits_35 ?_
        obtain ⟨r3, hc5, h⟩ := bq_some h
        refine cV_i (ci := 3) (q0 := 26) (rest := []) hF hW mw_X3_73 (c_X3_reaches l K a d hc5) ⟨Nat.le_of_ble_eq_true rfl, Nat.le_of_ble_eq_true rfl⟩ rfl rfl (pC_26 K a d _) rfl hl.1 rfl (Nat.le_of_ble_eq_true rfl) dX3_tileFits_36 ⟨Nat.le_of_ble_eq_true rfl, Nat.le_of_ble_eq_true rfl⟩ (fun _ H locs hW => ?_)
        refine lz_ne (tgt := 45) hx hb dX3_tileFits_39 (by decide) (fun q6 => ?_) (fun q6 => ?_)
        · have h := ifp q6 h
          refine lv_aload_n hx hb dX3_tileFits_45 rfl (lv_at hl 0 rfl) ?_
          refine g_X3_12 hF hW dX3_tileFits_46 ?_
          refine g_X3_41_now hF hW dX3_tileFits_49 ?_
          refine lv_iload hx hb dX3_tileFits_52 (lv_at hl 5 rfl) ?_
          obtain ⟨q7, h⟩ := ck_some h
          refine w_ild hF hW (pC_29 K a d _) q7 dX3_tileFits_54 ?_
          refine lv_iload_n hx hb dX3_tileFits_55 rfl (lv_at hl 2 rfl) ?_
          refine lv_iadd hx hb dX3_tileFits_56 ?_
          refine lv_bipush (v := 16) hx hb dX3_tileFits_57 (by decide) ?_
          refine lv_icmp_le (tgt := 64) hx hb dX3_tileFits_59 (by decide) (fun q8 => ?_) (fun q8 => ?_)
          · have h := ifp q8 h
            refine lv_iconst (v := 0) hx hb dX3_tileFits_64 (by decide) ?_
            refine lv_istore (lv' := [(6, .int 0), (0, .ref (a 26)), (1, .int x1), (2, .int x2), (3, .int x3), (4, .int x4), (5, .int x5)]) hx hb dX3_tileFits_65 hl (by decide) rfl (fun ls hl => ?_)
            exact J67 100000 x1 x2 x3 x4 x5 0 _ _ _ _ h hW (lv_sub hl [1, 2, 3, 4, 5, 6, 0] rfl)
          · have h := ifn q8 h
            refine lv_iconst (v := 0) hx hb dX3_tileFits_62 (by decide) ?_
            obtain rfl := Option.some.inj h
            exact rt_i hF hr hk (bI_n false) (fun _ => 0) hW rfl dX3_tileFits_63
        · have h := ifn q6 h
          refine lv_goto (tgt := 122) hx hb dX3_tileFits_42 (by decide) ?_
          refine lv_iinc (v := (x5 + 1)) (lv' := [(5, .int (x5 + 1)), (0, .ref (a 26)), (1, .int x1), (2, .int x2), (3, .int x3), (4, .int x4)]) hx hb dX3_tileFits_122 hl (k := 5) rfl rfl (by decide) rfl (fun ls hl => ?_)
          refine lv_goto (tgt := 14) hx hb dX3_tileFits_125 (by decide) ?_
          exact ih14 x1 x2 x3 x4 (x5 + 1) _ _ _ _ h hW (lv_sub hl [1, 2, 3, 4, 5, 0] rfl)
  unfold f_X3_tileFits at h
  refine lv_aload_n hx hb dX3_tileFits_0 rfl (lv_at hl 0 rfl) ?_
  refine g_X3_32 hF hW dX3_tileFits_1 ?_
  refine g_X3_45 hF hW dX3_tileFits_4 ?_
  refine lv_iload_n hx hb dX3_tileFits_7 rfl (lv_at hl 1 rfl) ?_
  obtain ⟨q1, h⟩ := ck_some h
  refine w_ild hF hW (pC_11 K a d _) q1 dX3_tileFits_8 ?_
  refine lv_istore (lv' := [(4, .int (M.1 11 x1.toNatClampNeg)), (0, .ref (a 26)), (1, .int x1), (2, .int x2), (3, .int x3)]) hx hb dX3_tileFits_9 hl (by decide) rfl (fun ls hl => ?_)
  refine lv_iconst (v := 0) hx hb dX3_tileFits_11 (by decide) ?_
  refine lv_istore (lv' := [(5, .int 0), (4, .int (M.1 11 x1.toNatClampNeg)), (0, .ref (a 26)), (1, .int x1), (2, .int x2), (3, .int x3)]) hx hb dX3_tileFits_12 hl (by decide) rfl (fun ls hl => ?_)
  exact J14 100000 x1 x2 x3 (M.1 11 x1.toNatClampNeg) 0 _ _ _ _ h hW (lv_sub hl [2, 3, 4, 5, 1, 0] rfl)
set_option maxRecDepth 100000 in
set_option maxHeartbeats 1000000 in
theorem c_X3_widen (l : Launch) (K : Kx) (a d : Nat → Nat) {M M0 : Mem} {x1 : Int32} {x2 : Int32} {x3 : Int32} {x4 : Int32}  (h : f_X3_widen M x1 x2 x3 x4 = some M0) : CMv l yX3_widen cX3_widen 6 ({ frames := 2, cells := 0, slots := 0, locals := 60 } : Room) K [.ref (a 26), .int x1, .int x2, .int x3, .int x4] (wC K a d M) (fun _ => wC K a d M0) := by
  refine cs_v (by decide +kernel) (Nat.le_of_ble_eq_true rfl) ?_
  intro p e s m args below meth c A ls hF hr hk hnm hW hl
  have hx := hF.1
  have hb := hF.2.1
  have hl : lv_has ls 6 [(0, .ref (a 26)), (1, .int x1), (2, .int x2), (3, .int x3), (4, .int x4)] := hl
  obtain ⟨H, hH⟩ : ∃ z, z = s.heap := ⟨_, rfl⟩
  rw [← hH] at hW ⊢
  unfold f_X3_widen at h
  refine lv_aload_n hx hb dX3_widen_0 rfl (lv_at hl 0 rfl) ?_
  refine g_X3_12 hF hW dX3_widen_1 ?_
  refine lv_iload_n hx hb dX3_widen_4 rfl (lv_at hl 1 rfl) ?_
  refine lv_iload_n hx hb dX3_widen_5 rfl (lv_at hl 2 rfl) ?_
  obtain ⟨r1, hc3, h⟩ := bq_some h
  refine cV_i (ci := 7) (q0 := 27) (rest := []) hF hW mw_X3_77 (c_X7_loopRow l K a d hc3) ⟨Nat.le_of_ble_eq_true rfl, Nat.le_of_ble_eq_true rfl⟩ rfl rfl (pC_27 K a d _) rfl hl.1 rfl (Nat.le_of_ble_eq_true rfl) dX3_widen_6 ⟨Nat.le_of_ble_eq_true rfl, Nat.le_of_ble_eq_true rfl⟩ (fun _ H locs hW => ?_)
  refine lv_istore (lv' := [(5, .int r1), (0, .ref (a 26)), (1, .int x1), (2, .int x2), (3, .int x3), (4, .int x4)]) hx hb dX3_widen_9 hl (by decide) rfl (fun ls hl => ?_)
  refine lv_iload hx hb dX3_widen_11 (lv_at hl 0 rfl) ?_
  refine lv_if_ge (tgt := 17) hx hb dX3_widen_13 (by decide) (fun q4 => ?_) (fun q4 => ?_)
  · have h := ifp q4 h
    refine lv_aload_n hx hb dX3_widen_17 rfl (lv_at hl 1 rfl) ?_
    refine g_X3_12 hF hW dX3_widen_18 ?_
    refine g_X3_80_now hF hW dX3_widen_21 ?_
    refine lv_iload hx hb dX3_widen_24 (lv_at hl 0 rfl) ?_
    refine lv_aload_n hx hb dX3_widen_26 rfl (lv_at hl 1 rfl) ?_
    refine g_X3_12 hF hW dX3_widen_27 ?_
    refine g_X3_80_now hF hW dX3_widen_30 ?_
    refine lv_iload_n hx hb dX3_widen_33 rfl (lv_at hl 4 rfl) ?_
    refine lv_iconst (v := 5) hx hb dX3_widen_34 (by decide) ?_
    obtain ⟨q5, h⟩ := ca_some h
    refine w_cpyi (rest := []) hF hW al_X3_95 ac_n ac_s ac_i (pC_28 K a d _) (pC_28 K a d _) q5 (vC_28 K a d _ _) hl.1 (Nat.le_of_ble_eq_true rfl) (Nat.le_of_ble_eq_true rfl) dX3_widen_35 (fun H locs hW => ?_)
    refine lv_aload_n hx hb dX3_widen_38 rfl (lv_at hl 1 rfl) ?_
    refine g_X3_12 hF hW dX3_widen_39 ?_
    refine g_X3_80_now hF hW dX3_widen_42 ?_
    refine lv_iload_n hx hb dX3_widen_45 rfl (lv_at hl 4 rfl) ?_
    refine lv_iconst (v := 5) hx hb dX3_widen_46 (by decide) ?_
    refine lv_iadd hx hb dX3_widen_47 ?_
    refine lv_aload_n hx hb dX3_widen_48 rfl (lv_at hl 1 rfl) ?_
    refine g_X3_12 hF hW dX3_widen_49 ?_
    refine g_X3_80_now hF hW dX3_widen_52 ?_
    refine lv_iload hx hb dX3_widen_55 (lv_at hl 0 rfl) ?_
    refine lv_iconst (v := 5) hx hb dX3_widen_57 (by decide) ?_
    refine lv_iadd hx hb dX3_widen_58 ?_
    obtain ⟨q6, h⟩ := ck_some h
    refine w_ild hF hW (pC_28 K a d _) q6 dX3_widen_59 ?_
    refine lv_iload hx hb dX3_widen_60 (lv_at hl 5 rfl) ?_
    refine lv_imul hx hb dX3_widen_62 ?_
    obtain ⟨q7, h⟩ := ck_some h
    refine w_ist hF hW (pC_28 K a d _) q7 (uC_28 K a d _ _ _) dX3_widen_63 (fun H locs hW => ?_)
    obtain rfl := Option.some.inj h
    exact rt_v hF hr hk (fun _ => 0) hW dX3_widen_64
  · have h := ifn q4 h
    obtain rfl := Option.some.inj h
    exact rt_v hF hr hk (fun _ => 0) hW dX3_widen_16
set_option maxRecDepth 100000 in
set_option maxHeartbeats 1000000 in
theorem c_X3_partRows (l : Launch) (K : Kx) (a d : Nat → Nat) {M M0 : Mem} {x1 : Int32}  (h : f_X3_partRows M x1 = some M0) : CMv l yX3_partRows cX3_partRows 5 ({ frames := 3, cells := 0, slots := 0, locals := 69 } : Room) K [.ref (a 26), .int x1] (wC K a d M) (fun _ => wC K a d M0) := by
  refine cs_v (by decide +kernel) (Nat.le_of_ble_eq_true rfl) ?_
  intro p e s m args below meth c A ls hF hr hk hnm hW hl
  have hx := hF.1
  have hb := hF.2.1
  have hl : lv_has ls 5 [(0, .ref (a 26)), (1, .int x1)] := hl
  obtain ⟨H, hH⟩ : ∃ z, z = s.heap := ⟨_, rfl⟩
  rw [← hH] at hW ⊢
  have J12 : ∀ (n12 : Nat) (x1 : Int32) (x2 : Int32) (x3 : Int32) (M : Mem) (H : Heap) (locs : List Loc) (ls : Array Slot), f_X3_partRows_12 n12 x1 x2 x3 M = some M0 → Wd K A s (wC K a d M) H locs → lv_has ls 5 [(0, .ref (a 26)), (1, .int x1), (2, .int x2), (3, .int x3)] → W p l e ({ frames := 3, cells := 0, slots := 0, locals := 69 } : Room) s m args below meth c H locs 0 0 (EndV K A (fun _ => wC K a d M0) below args s ({ frames := 3, cells := 0, slots := 0, locals := 69 } : Room)) (F0 m 12 ls []) := by
    intro n12
    induction n12 with
    | zero => intro x1 x2 x3 M H locs ls h; exact absurd h (by simp [f_X3_partRows_12])
    | succ n12 ih12 =>
      intro x1 x2 x3 M H locs ls h hW hl
      rw [f_X3_partRows_12] at h
      refine lv_iload_n hx hb dX3_partRows_12 rfl (lv_at hl 3 rfl) ?_
      refine lv_aload_n hx hb dX3_partRows_13 rfl (lv_at hl 0 rfl) ?_
      refine g_X3_32 hF hW dX3_partRows_14 ?_
      refine g_X3_36 hF hW dX3_partRows_17 ?_
      refine lv_icmp_ge (tgt := 78) hx hb dX3_partRows_20 (by decide) (fun q2 => ?_) (fun q2 => ?_)
      · have h := ifp q2 h
        obtain rfl := Option.some.inj h
        exact rt_v hF hr hk (fun _ => 0) hW dX3_partRows_78
      · have h := ifn q2 h
        refine lv_aload_n hx hb dX3_partRows_23 rfl (lv_at hl 0 rfl) ?_
        refine g_X3_32 hF hW dX3_partRows_24 ?_
        refine lv_iload_n hx hb dX3_partRows_27 rfl (lv_at hl 3 rfl) ?_
        refine lv_iload_n hx hb dX3_partRows_28 rfl (lv_at hl 1 rfl) ?_
        obtain ⟨r3, hc5, h⟩ := bq_some h
        refine cV_i (ci := 2) (q0 := 5) (rest := []) hF hW mw_X3_66 (c_X2_stands l K a d hc5) ⟨Nat.le_of_ble_eq_true rfl, Nat.le_of_ble_eq_true rfl⟩ rfl rfl (pC_5 K a d _) rfl hl.1 rfl (Nat.le_of_ble_eq_true rfl) dX3_partRows_29 ⟨Nat.le_of_ble_eq_true rfl, Nat.le_of_ble_eq_true rfl⟩ (fun _ H locs hW => ?_)
        refine lz_ne (tgt := 38) hx hb dX3_partRows_32 (by decide) (fun q6 => ?_) (fun q6 => ?_)
        · have h := ifp q6 h
          refine lv_aload_n hx hb dX3_partRows_38 rfl (lv_at hl 0 rfl) ?_
          refine g_X3_12 hF hW dX3_partRows_39 ?_
          refine lv_iload_n hx hb dX3_partRows_42 rfl (lv_at hl 3 rfl) ?_
          refine lv_iload_n hx hb dX3_partRows_43 rfl (lv_at hl 2 rfl) ?_
          obtain ⟨r7, hc9, h⟩ := bq_some h
          refine cV_i (ci := 7) (q0 := 27) (rest := []) hF hW mw_X3_101 (c_X7_rowAhead l K a d hc9) ⟨Nat.le_of_ble_eq_true rfl, Nat.le_of_ble_eq_true rfl⟩ rfl rfl (pC_27 K a d _) rfl hl.1 rfl (Nat.le_of_ble_eq_true rfl) dX3_partRows_44 ⟨Nat.le_of_ble_eq_true rfl, Nat.le_of_ble_eq_true rfl⟩ (fun _ H locs hW => ?_)
          refine lv_istore (lv' := [(4, .int r7), (0, .ref (a 26)), (1, .int x1), (2, .int x2), (3, .int x3)]) hx hb dX3_partRows_47 hl (by decide) rfl (fun ls hl => ?_)
          refine lv_iload hx hb dX3_partRows_49 (lv_at hl 0 rfl) ?_
          refine lv_if_lt (tgt := 72) hx hb dX3_partRows_51 (by decide) (fun q10 => ?_) (fun q10 => ?_)
          · have h := ifp q10 h
            refine lv_iinc (v := (x3 + 1)) (lv' := [(3, .int (x3 + 1)), (4, .int r7), (0, .ref (a 26)), (1, .int x1), (2, .int x2)]) hx hb dX3_partRows_72 hl (k := 4) rfl rfl (by decide) rfl (fun ls hl => ?_)
            refine lv_goto (tgt := 12) hx hb dX3_partRows_75 (by decide) ?_
            exact ih12 x1 x2 (x3 + 1) _ _ _ _ h hW (lv_sub hl [2, 3, 4, 0] rfl)
          · have h := ifn q10 h
            refine lv_aload_n hx hb dX3_partRows_54 rfl (lv_at hl 1 rfl) ?_
            refine g_X3_12 hF hW dX3_partRows_55 ?_
            refine g_X3_80_now hF hW dX3_partRows_58 ?_
            refine lv_iload hx hb dX3_partRows_61 (lv_at hl 0 rfl) ?_
            refine lv_aload_n hx hb dX3_partRows_63 rfl (lv_at hl 1 rfl) ?_
            refine lv_iload_n hx hb dX3_partRows_64 rfl (lv_at hl 4 rfl) ?_
            refine lv_iload_n hx hb dX3_partRows_65 rfl (lv_at hl 3 rfl) ?_
            refine lv_iload hx hb dX3_partRows_66 (lv_at hl 0 rfl) ?_
            obtain ⟨r11, hc13, h⟩ := bq_some h
            refine cV_i (ci := 3) (q0 := 26) (rest := [.int r7, .ref (a 28)]) hF hW mw_X3_104 (c_X3_parted l K a d hc13) ⟨Nat.le_of_ble_eq_true rfl, Nat.le_of_ble_eq_true rfl⟩ rfl rfl (pC_26 K a d _) rfl hl.1 rfl (Nat.le_of_ble_eq_true rfl) dX3_partRows_68 ⟨Nat.le_of_ble_eq_true rfl, Nat.le_of_ble_eq_true rfl⟩ (fun _ H locs hW => ?_)
            obtain ⟨q14, h⟩ := ck_some h
            refine w_ist hF hW (pC_28 K a d _) q14 (uC_28 K a d _ _ _) dX3_partRows_71 (fun H locs hW => ?_)
            refine lv_iinc (v := (x3 + 1)) (lv' := [(3, .int (x3 + 1)), (4, .int r7), (0, .ref (a 26)), (1, .int x1), (2, .int x2)]) hx hb dX3_partRows_72 hl (k := 4) rfl rfl (by decide) rfl (fun ls hl => ?_)
            refine lv_goto (tgt := 12) hx hb dX3_partRows_75 (by decide) ?_
            exact ih12 x1 x2 (x3 + 1) _ _ _ _ h hW (lv_sub hl [2, 3, 4, 0] rfl)
        · have h := ifn q6 h
          refine lv_goto (tgt := 72) hx hb dX3_partRows_35 (by decide) ?_
          refine lv_iinc (v := (x3 + 1)) (lv' := [(3, .int (x3 + 1)), (0, .ref (a 26)), (1, .int x1), (2, .int x2)]) hx hb dX3_partRows_72 hl (k := 3) rfl rfl (by decide) rfl (fun ls hl => ?_)
          refine lv_goto (tgt := 12) hx hb dX3_partRows_75 (by decide) ?_
          exact ih12 x1 x2 (x3 + 1) _ _ _ _ h hW (lv_sub hl [1, 2, 3, 0] rfl)
  unfold f_X3_partRows at h
  refine lv_aload_n hx hb dX3_partRows_0 rfl (lv_at hl 0 rfl) ?_
  refine g_X3_32 hF hW dX3_partRows_1 ?_
  refine g_X3_45 hF hW dX3_partRows_4 ?_
  refine lv_iload_n hx hb dX3_partRows_7 rfl (lv_at hl 1 rfl) ?_
  obtain ⟨q1, h⟩ := ck_some h
  refine w_ild hF hW (pC_11 K a d _) q1 dX3_partRows_8 ?_
  refine lv_istore_n (lv' := [(2, .int (M.1 11 x1.toNatClampNeg)), (0, .ref (a 26)), (1, .int x1)]) hx hb dX3_partRows_9 rfl hl (by decide) rfl (fun ls hl => ?_)
  refine lv_iconst (v := 0) hx hb dX3_partRows_10 (by decide) ?_
  refine lv_istore_n (lv' := [(3, .int 0), (2, .int (M.1 11 x1.toNatClampNeg)), (0, .ref (a 26)), (1, .int x1)]) hx hb dX3_partRows_11 rfl hl (by decide) rfl (fun ls hl => ?_)
  exact J12 100000 x1 (M.1 11 x1.toNatClampNeg) 0 _ _ _ _ h hW (lv_sub hl [2, 3, 1, 0] rfl)
set_option maxRecDepth 100000 in
set_option maxHeartbeats 1000000 in
theorem c_X3_joinRows (l : Launch) (K : Kx) (a d : Nat → Nat) {M M0 : Mem} {x1 : Int32} {x2 : Int32}  (h : f_X3_joinRows M x1 x2 = some M0) : CMv l yX3_joinRows cX3_joinRows 8 ({ frames := 3, cells := 0, slots := 0, locals := 69 } : Room) K [.ref (a 26), .int x1, .int x2] (wC K a d M) (fun _ => wC K a d M0) := by
  refine cs_v (by decide +kernel) (Nat.le_of_ble_eq_true rfl) ?_
  intro p e s m args below meth c A ls hF hr hk hnm hW hl
  have hx := hF.1
  have hb := hF.2.1
  have hl : lv_has ls 8 [(0, .ref (a 26)), (1, .int x1), (2, .int x2)] := hl
  obtain ⟨H, hH⟩ : ∃ z, z = s.heap := ⟨_, rfl⟩
  rw [← hH] at hW ⊢
  have J42 : ∀ (n42 : Nat) (x2 : Int32) (x3 : Int32) (x5 : Int32) (x6 : Int32) (M : Mem) (H : Heap) (locs : List Loc) (ls : Array Slot), f_X3_joinRows_42 n42 x2 x3 x5 x6 M = some M0 → Wd K A s (wC K a d M) H locs → lv_has ls 8 [(0, .ref (a 26)), (2, .int x2), (3, .int x3), (5, .int x5), (6, .int x6)] → W p l e ({ frames := 3, cells := 0, slots := 0, locals := 69 } : Room) s m args below meth c H locs 0 0 (EndV K A (fun _ => wC K a d M0) below args s ({ frames := 3, cells := 0, slots := 0, locals := 69 } : Room)) (F0 m 42 ls []) := by
    intro n42
    induction n42 with
    | zero => intro x2 x3 x5 x6 M H locs ls h; exact absurd h (by simp [f_X3_joinRows_42])
    | succ n42 ih42 =>
      intro x2 x3 x5 x6 M H locs ls h hW hl
      rw [f_X3_joinRows_42] at h
      refine lv_iload hx hb dX3_joinRows_42 (lv_at hl 4 rfl) ?_
      refine lv_aload_n hx hb dX3_joinRows_44 rfl (lv_at hl 0 rfl) ?_
      refine g_X3_32 hF hW dX3_joinRows_45 ?_
      refine g_X3_36 hF hW dX3_joinRows_48 ?_
      refine lv_icmp_ge (tgt := 105) hx hb dX3_joinRows_51 (by decide) (fun q7 => ?_) (fun q7 => ?_)
      · have h := ifp q7 h
        obtain rfl := Option.some.inj h
        exact rt_v hF hr hk (fun _ => 0) hW dX3_joinRows_105
      · have h := ifn q7 h
        refine lv_aload_n hx hb dX3_joinRows_54 rfl (lv_at hl 0 rfl) ?_
        refine g_X3_32 hF hW dX3_joinRows_55 ?_
        refine lv_iload hx hb dX3_joinRows_58 (lv_at hl 4 rfl) ?_
        refine lv_iload_n hx hb dX3_joinRows_60 rfl (lv_at hl 1 rfl) ?_
        obtain ⟨r8, hc10, h⟩ := bq_some h
        refine cV_i (ci := 2) (q0 := 5) (rest := []) hF hW mw_X3_66 (c_X2_stands l K a d hc10) ⟨Nat.le_of_ble_eq_true rfl, Nat.le_of_ble_eq_true rfl⟩ rfl rfl (pC_5 K a d _) rfl hl.1 rfl (Nat.le_of_ble_eq_true rfl) dX3_joinRows_61 ⟨Nat.le_of_ble_eq_true rfl, Nat.le_of_ble_eq_true rfl⟩ (fun _ H locs hW => ?_)
        refine lz_ne (tgt := 70) hx hb dX3_joinRows_64 (by decide) (fun q11 => ?_) (fun q11 => ?_)
        · have h := ifp q11 h
          refine lv_aload_n hx hb dX3_joinRows_70 rfl (lv_at hl 0 rfl) ?_
          refine g_X3_12 hF hW dX3_joinRows_71 ?_
          refine lv_iload hx hb dX3_joinRows_74 (lv_at hl 4 rfl) ?_
          refine lv_iload_n hx hb dX3_joinRows_76 rfl (lv_at hl 2 rfl) ?_
          obtain ⟨r12, hc14, h⟩ := bq_some h
          refine cV_i (ci := 7) (q0 := 27) (rest := []) hF hW mw_X3_101 (c_X7_rowAhead l K a d hc14) ⟨Nat.le_of_ble_eq_true rfl, Nat.le_of_ble_eq_true rfl⟩ rfl rfl (pC_27 K a d _) rfl hl.1 rfl (Nat.le_of_ble_eq_true rfl) dX3_joinRows_77 ⟨Nat.le_of_ble_eq_true rfl, Nat.le_of_ble_eq_true rfl⟩ (fun _ H locs hW => ?_)
          refine lv_istore (lv' := [(7, .int r12), (0, .ref (a 26)), (2, .int x2), (3, .int x3), (5, .int x5), (6, .int x6)]) hx hb dX3_joinRows_80 hl (by decide) rfl (fun ls hl => ?_)
          refine lv_iload hx hb dX3_joinRows_82 (lv_at hl 0 rfl) ?_
          refine lv_if_lt (tgt := 99) hx hb dX3_joinRows_84 (by decide) (fun q15 => ?_) (fun q15 => ?_)
          · have h := ifp q15 h
            refine lv_iinc (v := (x6 + 1)) (lv' := [(6, .int (x6 + 1)), (7, .int r12), (0, .ref (a 26)), (2, .int x2), (3, .int x3), (5, .int x5)]) hx hb dX3_joinRows_99 hl (k := 5) rfl rfl (by decide) rfl (fun ls hl => ?_)
            refine lv_goto (tgt := 42) hx hb dX3_joinRows_102 (by decide) ?_
            exact ih42 x2 x3 x5 (x6 + 1) _ _ _ _ h hW (lv_sub hl [2, 3, 4, 5, 0] rfl)
          · have h := ifn q15 h
            refine lv_aload_n hx hb dX3_joinRows_87 rfl (lv_at hl 1 rfl) ?_
            refine g_X3_12 hF hW dX3_joinRows_88 ?_
            refine g_X3_80_now hF hW dX3_joinRows_91 ?_
            refine lv_iload hx hb dX3_joinRows_94 (lv_at hl 0 rfl) ?_
            refine lv_iload hx hb dX3_joinRows_96 (lv_at hl 4 rfl) ?_
            obtain ⟨q16, h⟩ := ck_some h
            refine w_ist hF hW (pC_28 K a d _) q16 (uC_28 K a d _ _ _) dX3_joinRows_98 (fun H locs hW => ?_)
            refine lv_iinc (v := (x6 + 1)) (lv' := [(6, .int (x6 + 1)), (7, .int r12), (0, .ref (a 26)), (2, .int x2), (3, .int x3), (5, .int x5)]) hx hb dX3_joinRows_99 hl (k := 5) rfl rfl (by decide) rfl (fun ls hl => ?_)
            refine lv_goto (tgt := 42) hx hb dX3_joinRows_102 (by decide) ?_
            exact ih42 x2 x3 x5 (x6 + 1) _ _ _ _ h hW (lv_sub hl [2, 3, 4, 5, 0] rfl)
        · have h := ifn q11 h
          refine lv_goto (tgt := 99) hx hb dX3_joinRows_67 (by decide) ?_
          refine lv_iinc (v := (x6 + 1)) (lv' := [(6, .int (x6 + 1)), (0, .ref (a 26)), (2, .int x2), (3, .int x3), (5, .int x5)]) hx hb dX3_joinRows_99 hl (k := 4) rfl rfl (by decide) rfl (fun ls hl => ?_)
          refine lv_goto (tgt := 42) hx hb dX3_joinRows_102 (by decide) ?_
          exact ih42 x2 x3 x5 (x6 + 1) _ _ _ _ h hW (lv_sub hl [1, 2, 3, 4, 0] rfl)
  unfold f_X3_joinRows at h
  refine lv_aload_n hx hb dX3_joinRows_0 rfl (lv_at hl 0 rfl) ?_
  refine g_X3_32 hF hW dX3_joinRows_1 ?_
  refine g_X3_45 hF hW dX3_joinRows_4 ?_
  refine lv_iload_n hx hb dX3_joinRows_7 rfl (lv_at hl 2 rfl) ?_
  obtain ⟨q1, h⟩ := ck_some h
  refine w_ild hF hW (pC_11 K a d _) q1 dX3_joinRows_8 ?_
  refine lv_istore_n (lv' := [(3, .int (M.1 11 x2.toNatClampNeg)), (0, .ref (a 26)), (1, .int x1), (2, .int x2)]) hx hb dX3_joinRows_9 rfl hl (by decide) rfl (fun ls hl => ?_)
  refine lv_aload_n hx hb dX3_joinRows_10 rfl (lv_at hl 1 rfl) ?_
  refine g_X3_12 hF hW dX3_joinRows_11 ?_
  refine lv_iload_n hx hb dX3_joinRows_14 rfl (lv_at hl 2 rfl) ?_
  refine lv_iload_n hx hb dX3_joinRows_15 rfl (lv_at hl 0 rfl) ?_
  obtain ⟨r2, hc4, h⟩ := bq_some h
  refine cV_i (ci := 7) (q0 := 27) (rest := []) hF hW mw_X3_101 (c_X7_rowAhead l K a d hc4) ⟨Nat.le_of_ble_eq_true rfl, Nat.le_of_ble_eq_true rfl⟩ rfl rfl (pC_27 K a d _) rfl hl.1 rfl (Nat.le_of_ble_eq_true rfl) dX3_joinRows_16 ⟨Nat.le_of_ble_eq_true rfl, Nat.le_of_ble_eq_true rfl⟩ (fun _ H locs hW => ?_)
  refine lv_istore (lv' := [(4, .int r2), (3, .int (M.1 11 x2.toNatClampNeg)), (0, .ref (a 26)), (1, .int x1), (2, .int x2)]) hx hb dX3_joinRows_19 hl (by decide) rfl (fun ls hl => ?_)
  refine lv_iload hx hb dX3_joinRows_21 (lv_at hl 0 rfl) ?_
  refine lv_if_ge (tgt := 27) hx hb dX3_joinRows_23 (by decide) (fun q5 => ?_) (fun q5 => ?_)
  · have h := ifp q5 h
    refine lv_aload_n hx hb dX3_joinRows_27 rfl (lv_at hl 2 rfl) ?_
    refine g_X3_12 hF hW dX3_joinRows_28 ?_
    refine g_X3_80_now hF hW dX3_joinRows_31 ?_
    refine lv_iload hx hb dX3_joinRows_34 (lv_at hl 0 rfl) ?_
    obtain ⟨q6, h⟩ := ck_some h
    refine w_ild hF hW (pC_28 K a d _) q6 dX3_joinRows_36 ?_
    refine lv_istore (lv' := [(5, .int (M.1 28 r2.toNatClampNeg)), (4, .int r2), (3, .int (M.1 11 x2.toNatClampNeg)), (0, .ref (a 26)), (1, .int x1), (2, .int x2)]) hx hb dX3_joinRows_37 hl (by decide) rfl (fun ls hl => ?_)
    refine lv_iconst (v := 0) hx hb dX3_joinRows_39 (by decide) ?_
    refine lv_istore (lv' := [(6, .int 0), (5, .int (M.1 28 r2.toNatClampNeg)), (4, .int r2), (3, .int (M.1 11 x2.toNatClampNeg)), (0, .ref (a 26)), (1, .int x1), (2, .int x2)]) hx hb dX3_joinRows_40 hl (by decide) rfl (fun ls hl => ?_)
    exact J42 100000 x2 (M.1 11 x2.toNatClampNeg) (M.1 28 r2.toNatClampNeg) 0 _ _ _ _ h hW (lv_sub hl [4, 6, 3, 1, 0] rfl)
  · have h := ifn q5 h
    obtain rfl := Option.some.inj h
    exact rt_v hF hr hk (fun _ => 0) hW dX3_joinRows_26
set_option maxRecDepth 100000 in
set_option maxHeartbeats 1000000 in
theorem c_X7_addPlace (l : Launch) (K : Kx) (a d : Nat → Nat) {M M0 : Mem} {x1 : Int32} {x2 : Int32}  (h : f_X7_addPlace M x1 x2 = some M0) : CMv l yX7_addPlace cX7_addPlace 4 ({ frames := 3, cells := 0, slots := 0, locals := 86 } : Room) K [.ref (a 27), .int x1, .int x2] (wC K a d M) (fun _ => wC K a d M0) := by
  refine cs_v (by decide +kernel) (Nat.le_of_ble_eq_true rfl) ?_
  intro p e s m args below meth c A ls hF hr hk hnm hW hl
  have hx := hF.1
  have hb := hF.2.1
  have hl : lv_has ls 4 [(0, .ref (a 27)), (1, .int x1), (2, .int x2)] := hl
  obtain ⟨H, hH⟩ : ∃ z, z = s.heap := ⟨_, rfl⟩
  rw [← hH] at hW ⊢
  unfold f_X7_addPlace at h
  refine lv_aload_n hx hb dX7_addPlace_0 rfl (lv_at hl 0 rfl) ?_
  refine lv_iload_n hx hb dX7_addPlace_1 rfl (lv_at hl 1 rfl) ?_
  obtain ⟨r1, M2, hc3, h⟩ := bd_some h
  refine cV_i (ci := 7) (q0 := 27) (rest := []) hF hW mw_X7_24 (c_X7_addRow l K a d hc3) ⟨Nat.le_of_ble_eq_true rfl, Nat.le_of_ble_eq_true rfl⟩ rfl rfl (pC_27 K a d _) rfl hl.1 rfl (Nat.le_of_ble_eq_true rfl) dX7_addPlace_2 ⟨Nat.le_of_ble_eq_true rfl, Nat.le_of_ble_eq_true rfl⟩ (fun _ H locs hW => ?_)
  refine lv_istore_n (lv' := [(3, .int r1), (0, .ref (a 27)), (1, .int x1), (2, .int x2)]) hx hb dX7_addPlace_5 rfl hl (by decide) rfl (fun ls hl => ?_)
  refine lv_aload_n hx hb dX7_addPlace_6 rfl (lv_at hl 1 rfl) ?_
  refine g_X7_9_now hF hW dX7_addPlace_7 ?_
  refine lv_iload_n hx hb dX7_addPlace_10 rfl (lv_at hl 0 rfl) ?_
  refine lv_iload_n hx hb dX7_addPlace_11 rfl (lv_at hl 3 rfl) ?_
  obtain ⟨q4, h⟩ := ck_some h
  refine w_ist hF hW (pC_28 K a d _) q4 (uC_28 K a d _ _ _) dX7_addPlace_12 (fun H locs hW => ?_)
  obtain rfl := Option.some.inj h
  exact rt_v hF hr hk (fun _ => 0) hW dX7_addPlace_13
set_option maxRecDepth 100000 in
set_option maxHeartbeats 1000000 in
theorem c_X7_addLetter (l : Launch) (K : Kx) (a d : Nat → Nat) {M M0 : Mem} {x1 : Int32} {x2 : Int32}  (h : f_X7_addLetter M x1 x2 = some M0) : CMv l yX7_addLetter cX7_addLetter 4 ({ frames := 3, cells := 0, slots := 0, locals := 86 } : Room) K [.ref (a 27), .int x1, .int x2] (wC K a d M) (fun _ => wC K a d M0) := by
  refine cs_v (by decide +kernel) (Nat.le_of_ble_eq_true rfl) ?_
  intro p e s m args below meth c A ls hF hr hk hnm hW hl
  have hx := hF.1
  have hb := hF.2.1
  have hl : lv_has ls 4 [(0, .ref (a 27)), (1, .int x1), (2, .int x2)] := hl
  obtain ⟨H, hH⟩ : ∃ z, z = s.heap := ⟨_, rfl⟩
  rw [← hH] at hW ⊢
  unfold f_X7_addLetter at h
  refine lv_aload_n hx hb dX7_addLetter_0 rfl (lv_at hl 0 rfl) ?_
  refine lv_iload_n hx hb dX7_addLetter_1 rfl (lv_at hl 1 rfl) ?_
  obtain ⟨r1, M2, hc3, h⟩ := bd_some h
  refine cV_i (ci := 7) (q0 := 27) (rest := []) hF hW mw_X7_24 (c_X7_addRow l K a d hc3) ⟨Nat.le_of_ble_eq_true rfl, Nat.le_of_ble_eq_true rfl⟩ rfl rfl (pC_27 K a d _) rfl hl.1 rfl (Nat.le_of_ble_eq_true rfl) dX7_addLetter_2 ⟨Nat.le_of_ble_eq_true rfl, Nat.le_of_ble_eq_true rfl⟩ (fun _ H locs hW => ?_)
  refine lv_istore_n (lv' := [(3, .int r1), (0, .ref (a 27)), (1, .int x1), (2, .int x2)]) hx hb dX7_addLetter_5 rfl hl (by decide) rfl (fun ls hl => ?_)
  refine lv_aload_n hx hb dX7_addLetter_6 rfl (lv_at hl 1 rfl) ?_
  refine g_X7_9_now hF hW dX7_addLetter_7 ?_
  refine lv_iload_n hx hb dX7_addLetter_10 rfl (lv_at hl 0 rfl) ?_
  refine lv_iconst (v := 1) hx hb dX7_addLetter_11 (by decide) ?_
  refine lv_iadd hx hb dX7_addLetter_12 ?_
  refine lv_iload_n hx hb dX7_addLetter_13 rfl (lv_at hl 3 rfl) ?_
  refine lv_iadd hx hb dX7_addLetter_14 ?_
  refine lv_iconst (v := 1) hx hb dX7_addLetter_15 (by decide) ?_
  obtain ⟨q4, h⟩ := ck_some h
  refine w_ist hF hW (pC_28 K a d _) q4 (uC_28 K a d _ _ _) dX7_addLetter_16 (fun H locs hW => ?_)
  refine lv_aload_n hx hb dX7_addLetter_17 rfl (lv_at hl 1 rfl) ?_
  refine g_X7_9_now hF hW dX7_addLetter_18 ?_
  refine lv_iload_n hx hb dX7_addLetter_21 rfl (lv_at hl 0 rfl) ?_
  refine lv_bipush (v := 6) hx hb dX7_addLetter_22 (by decide) ?_
  refine lv_iadd hx hb dX7_addLetter_24 ?_
  refine lv_iload_n hx hb dX7_addLetter_25 rfl (lv_at hl 3 rfl) ?_
  obtain ⟨q5, h⟩ := ck_some h
  refine w_ist hF hW (pC_28 K a d _) q5 (uC_28 K a d _ _ _) dX7_addLetter_26 (fun H locs hW => ?_)
  obtain rfl := Option.some.inj h
  exact rt_v hF hr hk (fun _ => 0) hW dX7_addLetter_27
set_option maxRecDepth 100000 in
set_option maxHeartbeats 1000000 in
theorem c_X9_spotOf (l : Launch) (K : Kx) (a d : Nat → Nat) {M M0 : Mem} {x1 : Int32} {x2 : Int32} {r0 : Int32} (h : f_X9_spotOf M x1 x2 = some (r0, M0)) : CMi l yX9_spotOf cX9_spotOf 6 (some .int) ({ frames := 1, cells := 0, slots := 0, locals := 26 } : Room) K [.ref (a 38), .int x1, .int x2] (wC K a d M) (fun _ => wC K a d M0) r0 := by
  refine cs_i (by decide +kernel) (Nat.le_of_ble_eq_true rfl) ?_
  intro p e s m args below meth c A ls hF hr hk hnm hW hl
  have hx := hF.1
  have hb := hF.2.1
  have hl : lv_has ls 6 [(0, .ref (a 38)), (1, .int x1), (2, .int x2)] := hl
  obtain ⟨H, hH⟩ : ∃ z, z = s.heap := ⟨_, rfl⟩
  rw [← hH] at hW ⊢
  have J20 : ∀ (n20 : Nat) (x1 : Int32) (x2 : Int32) (x3 : Int32) (x4 : Int32) (M : Mem) (H : Heap) (locs : List Loc) (ls : Array Slot), f_X9_spotOf_20 n20 x1 x2 x3 x4 M = some (r0, M0) → Wd K A s (wC K a d M) H locs → lv_has ls 6 [(0, .ref (a 38)), (1, .int x1), (2, .int x2), (3, .int x3), (4, .int x4)] → W p l e ({ frames := 1, cells := 0, slots := 0, locals := 26 } : Room) s m args below meth c H locs 0 0 (EndI K A (fun _ => wC K a d M0) r0 below args s ({ frames := 1, cells := 0, slots := 0, locals := 26 } : Room)) (F0 m 20 ls []) := by
    intro n20
    induction n20 with
    | zero => intro x1 x2 x3 x4 M H locs ls h; exact absurd h (by simp [f_X9_spotOf_20])
    | succ n20 ih20 =>
      have J105 : ∀ (x1 : Int32) (x2 : Int32) (x3 : Int32) (x4 : Int32) (M : Mem) (H : Heap) (locs : List Loc) (ls : Array Slot), f_X9_spotOf_105 (f_X9_spotOf_20 n20) x1 x2 x3 x4 M = some (r0, M0) → Wd K A s (wC K a d M) H locs → lv_has ls 6 [(0, .ref (a 38)), (1, .int x1), (2, .int x2), (3, .int x3), (4, .int x4)] → W p l e ({ frames := 1, cells := 0, slots := 0, locals := 26 } : Room) s m args below meth c H locs 0 0 (EndI K A (fun _ => wC K a d M0) r0 below args s ({ frames := 1, cells := 0, slots := 0, locals := 26 } : Room)) (F0 m 105 ls []) := by
        intro x1 x2 x3 x4 M H locs ls h hW hl
        unfold f_X9_spotOf_105 at h
        refine lv_iload_n hx hb dX9_spotOf_105 rfl (lv_at hl 3 rfl) ?_
        refine lv_iconst (v := 1) hx hb dX9_spotOf_106 (by decide) ?_
        refine lv_iadd hx hb dX9_spotOf_107 ?_
        refine lv_sipush (v := 2047) hx hb dX9_spotOf_108 (by decide) ?_
        refine lv_iand hx hb dX9_spotOf_111 ?_
        refine lv_istore_n (lv' := [(3, .int ((x3 + 1) &&& 2047)), (0, .ref (a 38)), (1, .int x1), (2, .int x2), (4, .int x4)]) hx hb dX9_spotOf_112 rfl hl (by decide) rfl (fun ls hl => ?_)
        refine lv_iinc (v := (x4 + 1)) (lv' := [(4, .int (x4 + 1)), (3, .int ((x3 + 1) &&& 2047)), (0, .ref (a 38)), (1, .int x1), (2, .int x2)]) hx hb dX9_spotOf_113 hl (k := 4) rfl rfl (by decide) rfl (fun ls hl => ?_)
        refine lv_goto (tgt := 20) hx hb dX9_spotOf_116 (by decide) ?_
        exact ih20 x1 x2 ((x3 + 1) &&& 2047) (x4 + 1) _ _ _ _ h hW (lv_sub hl [2, 3, 4, 1, 0] rfl)
      have J119 : ∀ (x1 : Int32) (x3 : Int32) (M : Mem) (H : Heap) (locs : List Loc) (ls : Array Slot), f_X9_spotOf_119 x1 x3 M = some (r0, M0) → Wd K A s (wC K a d M) H locs → lv_has ls 6 [(0, .ref (a 38)), (1, .int x1), (3, .int x3)] → W p l e ({ frames := 1, cells := 0, slots := 0, locals := 26 } : Room) s m args below meth c H locs 0 0 (EndI K A (fun _ => wC K a d M0) r0 below args s ({ frames := 1, cells := 0, slots := 0, locals := 26 } : Room)) (F0 m 119 ls []) := by
        intro x1 x3 M H locs ls h hW hl
        unfold f_X9_spotOf_119 at h
        refine lv_aload_n hx hb dX9_spotOf_119 rfl (lv_at hl 0 rfl) ?_
        refine g_X9_26 hF hW dX9_spotOf_120 ?_
        refine lv_iload_n hx hb dX9_spotOf_123 rfl (lv_at hl 2 rfl) ?_
        refine lv_iload_n hx hb dX9_spotOf_124 rfl (lv_at hl 1 rfl) ?_
        refine lv_iconst (v := 1) hx hb dX9_spotOf_125 (by decide) ?_
        refine lv_iadd hx hb dX9_spotOf_126 ?_
        obtain ⟨q23, h⟩ := ck_some h
        refine w_ist hF hW (pC_42 K a d _) q23 (uC_42 K a d _ _ _) dX9_spotOf_127 (fun H locs hW => ?_)
        refine lv_aload_n hx hb dX9_spotOf_128 rfl (lv_at hl 0 rfl) ?_
        refine lv_dup hx hb dX9_spotOf_129 rfl ?_
        refine g_X9_22 hF hW dX9_spotOf_130 ?_
        refine lv_iconst (v := 1) hx hb dX9_spotOf_133 (by decide) ?_
        refine lv_iadd hx hb dX9_spotOf_134 ?_
        refine s_X9_22 (x := (((sI M 42 x3.toNatClampNeg (x1 + 1)).1 114 0) + 1)) hF hW dX9_spotOf_135 (fun H locs hW => ?_)
        refine lv_aload_n hx hb dX9_spotOf_138 rfl (lv_at hl 0 rfl) ?_
        refine g_X9_22 hF hW dX9_spotOf_139 ?_
        refine lv_iconst (v := 1) hx hb dX9_spotOf_142 (by decide) ?_
        refine lv_isub hx hb dX9_spotOf_143 ?_
        obtain ⟨rfl, rfl⟩ := Prod.mk.inj (Option.some.inj h)
        exact rt_i hF hr hk rfl (fun _ => 0) hW rfl dX9_spotOf_144
      intro x1 x2 x3 x4 M H locs ls h hW hl
      rw [f_X9_spotOf_20] at h
      refine lv_iload hx hb dX9_spotOf_20 (lv_at hl 4 rfl) ?_
      refine lv_sipush (v := 2048) hx hb dX9_spotOf_22 (by decide) ?_
      refine lv_icmp_ge (tgt := 119) hx hb dX9_spotOf_25 (by decide) (fun q6 => ?_) (fun q6 => ?_)
      · have h := ifp q6 h
        exact J119 x1 x3 _ _ _ _ h hW (lv_sub hl [0, 1, 3] rfl)
      · have h := ifn q6 h
        refine lv_aload_n hx hb dX9_spotOf_28 rfl (lv_at hl 0 rfl) ?_
        refine g_X9_26 hF hW dX9_spotOf_29 ?_
        refine lv_iload_n hx hb dX9_spotOf_32 rfl (lv_at hl 3 rfl) ?_
        obtain ⟨q7, h⟩ := ck_some h
        refine w_ild hF hW (pC_42 K a d _) q7 dX9_spotOf_33 ?_
        refine lv_if_eq (tgt := 119) hx hb dX9_spotOf_34 (by decide) (fun q8 => ?_) (fun q8 => ?_)
        · have h := ifp q8 h
          exact J119 x1 x3 _ _ _ _ h hW (lv_sub hl [0, 1, 3] rfl)
        · have h := ifn q8 h
          refine lv_aload_n hx hb dX9_spotOf_37 rfl (lv_at hl 0 rfl) ?_
          refine g_X9_26 hF hW dX9_spotOf_38 ?_
          refine lv_iload_n hx hb dX9_spotOf_41 rfl (lv_at hl 3 rfl) ?_
          obtain ⟨q9, h⟩ := ck_some h
          refine w_ild hF hW (pC_42 K a d _) q9 dX9_spotOf_42 ?_
          refine lv_iconst (v := 1) hx hb dX9_spotOf_43 (by decide) ?_
          refine lv_isub hx hb dX9_spotOf_44 ?_
          refine lv_istore (lv' := [(5, .int ((M.1 42 x3.toNatClampNeg) - 1)), (0, .ref (a 38)), (1, .int x1), (2, .int x2), (3, .int x3), (4, .int x4)]) hx hb dX9_spotOf_45 hl (by decide) rfl (fun ls hl => ?_)
          refine lv_aload_n hx hb dX9_spotOf_47 rfl (lv_at hl 1 rfl) ?_
          refine g_X9_9 hF hW dX9_spotOf_48 ?_
          refine lv_iload hx hb dX9_spotOf_51 (lv_at hl 0 rfl) ?_
          obtain ⟨q10, h⟩ := ck_some h
          refine w_lld hF hW (pC_39 K a d _) q10 dX9_spotOf_53 ?_
          refine lv_aload_n hx hb dX9_spotOf_54 rfl (lv_at hl 1 rfl) ?_
          refine g_X9_9 hF hW dX9_spotOf_55 ?_
          refine lv_iload_n hx hb dX9_spotOf_58 rfl (lv_at hl 2 rfl) ?_
          obtain ⟨q11, h⟩ := ck_some h
          refine w_lld hF hW (pC_39 K a d _) q11 dX9_spotOf_59 ?_
          refine ll_ne (tgt := 105) hx hb dX9_spotOf_60 dX9_spotOf_61 (by decide) (fun q12 => ?_) (fun q12 => ?_)
          · have h := ifn q12 h
            exact J105 x1 x2 x3 x4 _ _ _ _ h hW (lv_sub hl [1, 2, 3, 4, 5] rfl)
          · have h := ifp q12 h
            refine lv_aload_n hx hb dX9_spotOf_64 rfl (lv_at hl 1 rfl) ?_
            refine g_X9_15 hF hW dX9_spotOf_65 ?_
            refine lv_iload hx hb dX9_spotOf_68 (lv_at hl 0 rfl) ?_
            obtain ⟨q13, h⟩ := ck_some h
            refine w_lld hF hW (pC_40 K a d _) q13 dX9_spotOf_70 ?_
            refine lv_aload_n hx hb dX9_spotOf_71 rfl (lv_at hl 1 rfl) ?_
            refine g_X9_15 hF hW dX9_spotOf_72 ?_
            refine lv_iload_n hx hb dX9_spotOf_75 rfl (lv_at hl 2 rfl) ?_
            obtain ⟨q14, h⟩ := ck_some h
            refine w_lld hF hW (pC_40 K a d _) q14 dX9_spotOf_76 ?_
            refine ll_ne (tgt := 105) hx hb dX9_spotOf_77 dX9_spotOf_78 (by decide) (fun q15 => ?_) (fun q15 => ?_)
            · have h := ifn q15 h
              exact J105 x1 x2 x3 x4 _ _ _ _ h hW (lv_sub hl [1, 2, 3, 4, 5] rfl)
            · have h := ifp q15 h
              refine lv_aload_n hx hb dX9_spotOf_81 rfl (lv_at hl 1 rfl) ?_
              refine lv_iload hx hb dX9_spotOf_82 (lv_at hl 0 rfl) ?_
              refine lv_iconst (v := 3) hx hb dX9_spotOf_84 (by decide) ?_
              obtain ⟨q16, h⟩ := nzI_some h
              refine lv_idiv hx hb dX9_spotOf_85 q16 ?_
              refine lv_iload hx hb dX9_spotOf_86 (lv_at hl 0 rfl) ?_
              refine lv_iconst (v := 3) hx hb dX9_spotOf_88 (by decide) ?_
              obtain ⟨q17, h⟩ := nzI_some h
              refine lv_irem hx hb dX9_spotOf_89 q17 ?_
              obtain ⟨r18, hc20, h⟩ := bq_some h
              refine cV_i (ci := 9) (q0 := 38) (rest := []) hF hW mw_X9_91 (c_X9_arrayAt l K a d hc20) ⟨Nat.le_of_ble_eq_true rfl, Nat.le_of_ble_eq_true rfl⟩ rfl rfl (pC_38 K a d _) rfl hl.1 rfl (Nat.le_of_ble_eq_true rfl) dX9_spotOf_90 ⟨Nat.le_of_ble_eq_true rfl, Nat.le_of_ble_eq_true rfl⟩ (fun _ H locs hW => ?_)
              refine lv_iload_n hx hb dX9_spotOf_93 rfl (lv_at hl 3 rfl) ?_
              refine lv_icmp_ne (tgt := 105) hx hb dX9_spotOf_94 (by decide) (fun q21 => ?_) (fun q21 => ?_)
              · have h := ifn q21 h
                exact J105 x1 x2 x3 x4 _ _ _ _ h hW (lv_sub hl [1, 2, 3, 4, 5] rfl)
              · have h := ifp q21 h
                refine lv_aload_n hx hb dX9_spotOf_97 rfl (lv_at hl 1 rfl) ?_
                refine g_X9_18 hF hW dX9_spotOf_98 ?_
                refine lv_iload hx hb dX9_spotOf_101 (lv_at hl 0 rfl) ?_
                obtain ⟨q22, h⟩ := ck_some h
                refine w_ild hF hW (pC_41 K a d _) q22 dX9_spotOf_103 ?_
                obtain ⟨rfl, rfl⟩ := Prod.mk.inj (Option.some.inj h)
                exact rt_i hF hr hk rfl (fun _ => 0) hW rfl dX9_spotOf_104
  unfold f_X9_spotOf at h
  refine lv_iload_n hx hb dX9_spotOf_0 rfl (lv_at hl 2 rfl) ?_
  refine lv_aload_n hx hb dX9_spotOf_1 rfl (lv_at hl 0 rfl) ?_
  refine g_X9_9 hF hW dX9_spotOf_2 ?_
  refine lv_iload_n hx hb dX9_spotOf_5 rfl (lv_at hl 1 rfl) ?_
  obtain ⟨q1, h⟩ := ck_some h
  refine w_lld hF hW (pC_39 K a d _) q1 dX9_spotOf_6 ?_
  refine lv_aload_n hx hb dX9_spotOf_7 rfl (lv_at hl 0 rfl) ?_
  refine g_X9_15 hF hW dX9_spotOf_8 ?_
  refine lv_iload_n hx hb dX9_spotOf_11 rfl (lv_at hl 1 rfl) ?_
  obtain ⟨q2, h⟩ := ck_some h
  refine w_lld hF hW (pC_40 K a d _) q2 dX9_spotOf_12 ?_
  obtain ⟨r3, hc5, h⟩ := bq_some h
  refine cS_i (rest := []) hF hW mw_X9_87 (c_X9_slotOf l K hc5) ⟨Nat.le_of_ble_eq_true rfl, Nat.le_of_ble_eq_true rfl⟩ rfl hl.1 rfl (Nat.le_of_ble_eq_true rfl) dX9_spotOf_13 ⟨Nat.le_of_ble_eq_true rfl, Nat.le_of_ble_eq_true rfl⟩ (fun _ H locs hW => ?_)
  refine lv_istore_n (lv' := [(3, .int r3), (0, .ref (a 38)), (1, .int x1), (2, .int x2)]) hx hb dX9_spotOf_16 rfl hl (by decide) rfl (fun ls hl => ?_)
  refine lv_iconst (v := 0) hx hb dX9_spotOf_17 (by decide) ?_
  refine lv_istore (lv' := [(4, .int 0), (3, .int r3), (0, .ref (a 38)), (1, .int x1), (2, .int x2)]) hx hb dX9_spotOf_18 hl (by decide) rfl (fun ls hl => ?_)
  exact J20 100000 x1 x2 r3 0 _ _ _ _ h hW (lv_sub hl [2, 3, 4, 1, 0] rfl)
set_option maxRecDepth 100000 in
set_option maxHeartbeats 1000000 in
theorem c_X10_merge (l : Launch) (K : Kx) (a d : Nat → Nat) {M M0 : Mem} {x1 : Int32} {x2 : Int32} {x3 : Int32}  (h : f_X10_merge M x1 x2 x3 = some M0) : CMv l yX10_merge cX10_merge 7 ({ frames := 2, cells := 0, slots := 0, locals := 60 } : Room) K [.ref (a 55), .int x1, .int x2, .int x3] (wC K a d M) (fun _ => wC K a d M0) := by
  refine cs_v (by decide +kernel) (Nat.le_of_ble_eq_true rfl) ?_
  intro p e s m args below meth c A ls hF hr hk hnm hW hl
  have hx := hF.1
  have hb := hF.2.1
  have hl : lv_has ls 7 [(0, .ref (a 55)), (1, .int x1), (2, .int x2), (3, .int x3)] := hl
  obtain ⟨H, hH⟩ : ∃ z, z = s.heap := ⟨_, rfl⟩
  rw [← hH] at hW ⊢
  have J47 : ∀ (n47 : Nat) (x2 : Int32) (x3 : Int32) (x4 : Int32) (x5 : Int32) (x6 : Int32) (M : Mem) (H : Heap) (locs : List Loc) (ls : Array Slot), f_X10_merge_47 n47 x2 x3 x4 x5 x6 M = some M0 → Wd K A s (wC K a d M) H locs → lv_has ls 7 [(0, .ref (a 55)), (2, .int x2), (3, .int x3), (4, .int x4), (5, .int x5), (6, .int x6)] → W p l e ({ frames := 2, cells := 0, slots := 0, locals := 60 } : Room) s m args below meth c H locs 0 0 (EndV K A (fun _ => wC K a d M0) below args s ({ frames := 2, cells := 0, slots := 0, locals := 60 } : Room)) (F0 m 47 ls []) := by
    intro n47
    induction n47 with
    | zero => intro x2 x3 x4 x5 x6 M H locs ls h; exact absurd h (by simp [f_X10_merge_47])
    | succ n47 ih47 =>
      have J86 : ∀ (x2 : Int32) (x3 : Int32) (x4 : Int32) (x5 : Int32) (x6 : Int32) (M : Mem) (H : Heap) (locs : List Loc) (ls : Array Slot), f_X10_merge_86 (f_X10_merge_47 n47) x2 x3 x4 x5 x6 M = some M0 → Wd K A s (wC K a d M) H locs → lv_has ls 7 [(0, .ref (a 55)), (2, .int x2), (3, .int x3), (4, .int x4), (5, .int x5), (6, .int x6)] → W p l e ({ frames := 2, cells := 0, slots := 0, locals := 60 } : Room) s m args below meth c H locs 0 0 (EndV K A (fun _ => wC K a d M0) below args s ({ frames := 2, cells := 0, slots := 0, locals := 60 } : Room)) (F0 m 86 ls []) := by
        intro x2 x3 x4 x5 x6 M H locs ls h hW hl
        unfold f_X10_merge_86 at h
        refine lv_aload_n hx hb dX10_merge_86 rfl (lv_at hl 0 rfl) ?_
        refine g_X10_15 hF hW dX10_merge_87 ?_
        refine lv_iload hx hb dX10_merge_90 (lv_at hl 5 rfl) ?_
        refine lv_aload_n hx hb dX10_merge_92 rfl (lv_at hl 0 rfl) ?_
        refine g_X10_19 hF hW dX10_merge_93 ?_
        refine lv_iload hx hb dX10_merge_96 (lv_at hl 3 rfl) ?_
        obtain ⟨q17, h⟩ := ck_some h
        refine w_ild hF hW (pC_58 K a d _) q17 dX10_merge_98 ?_
        obtain ⟨q18, h⟩ := ck_some h
        refine w_ist hF hW (pC_57 K a d _) q18 (uC_57 K a d _ _ _) dX10_merge_99 (fun H locs hW => ?_)
        refine lv_iinc (v := (x4 + 1)) (lv' := [(4, .int (x4 + 1)), (0, .ref (a 55)), (2, .int x2), (3, .int x3), (5, .int x5), (6, .int x6)]) hx hb dX10_merge_100 hl (k := 3) rfl rfl (by decide) rfl (fun ls hl => ?_)
        refine lv_goto (tgt := 123) hx hb dX10_merge_103 (by decide) ?_
        refine lv_iinc (v := (x6 + 1)) (lv' := [(6, .int (x6 + 1)), (4, .int (x4 + 1)), (0, .ref (a 55)), (2, .int x2), (3, .int x3), (5, .int x5)]) hx hb dX10_merge_123 hl (k := 5) rfl rfl (by decide) rfl (fun ls hl => ?_)
        refine lv_goto (tgt := 47) hx hb dX10_merge_126 (by decide) ?_
        exact ih47 x2 x3 (x4 + 1) x5 (x6 + 1) _ _ _ _ h hW (lv_sub hl [2, 3, 4, 1, 5, 0] rfl)
      have J106 : ∀ (x2 : Int32) (x3 : Int32) (x4 : Int32) (x5 : Int32) (x6 : Int32) (M : Mem) (H : Heap) (locs : List Loc) (ls : Array Slot), f_X10_merge_106 (f_X10_merge_47 n47) x2 x3 x4 x5 x6 M = some M0 → Wd K A s (wC K a d M) H locs → lv_has ls 7 [(0, .ref (a 55)), (2, .int x2), (3, .int x3), (4, .int x4), (5, .int x5), (6, .int x6)] → W p l e ({ frames := 2, cells := 0, slots := 0, locals := 60 } : Room) s m args below meth c H locs 0 0 (EndV K A (fun _ => wC K a d M0) below args s ({ frames := 2, cells := 0, slots := 0, locals := 60 } : Room)) (F0 m 106 ls []) := by
        intro x2 x3 x4 x5 x6 M H locs ls h hW hl
        unfold f_X10_merge_106 at h
        refine lv_aload_n hx hb dX10_merge_106 rfl (lv_at hl 0 rfl) ?_
        refine g_X10_15 hF hW dX10_merge_107 ?_
        refine lv_iload hx hb dX10_merge_110 (lv_at hl 5 rfl) ?_
        refine lv_aload_n hx hb dX10_merge_112 rfl (lv_at hl 0 rfl) ?_
        refine g_X10_19 hF hW dX10_merge_113 ?_
        refine lv_iload hx hb dX10_merge_116 (lv_at hl 4 rfl) ?_
        obtain ⟨q19, h⟩ := ck_some h
        refine w_ild hF hW (pC_58 K a d _) q19 dX10_merge_118 ?_
        obtain ⟨q20, h⟩ := ck_some h
        refine w_ist hF hW (pC_57 K a d _) q20 (uC_57 K a d _ _ _) dX10_merge_119 (fun H locs hW => ?_)
        refine lv_iinc (v := (x5 + 1)) (lv' := [(5, .int (x5 + 1)), (0, .ref (a 55)), (2, .int x2), (3, .int x3), (4, .int x4), (6, .int x6)]) hx hb dX10_merge_120 hl (k := 4) rfl rfl (by decide) rfl (fun ls hl => ?_)
        refine lv_iinc (v := (x6 + 1)) (lv' := [(6, .int (x6 + 1)), (5, .int (x5 + 1)), (0, .ref (a 55)), (2, .int x2), (3, .int x3), (4, .int x4)]) hx hb dX10_merge_123 hl (k := 5) rfl rfl (by decide) rfl (fun ls hl => ?_)
        refine lv_goto (tgt := 47) hx hb dX10_merge_126 (by decide) ?_
        exact ih47 x2 x3 x4 (x5 + 1) (x6 + 1) _ _ _ _ h hW (lv_sub hl [2, 3, 4, 5, 1, 0] rfl)
      intro x2 x3 x4 x5 x6 M H locs ls h hW hl
      rw [f_X10_merge_47] at h
      refine lv_iload hx hb dX10_merge_47 (lv_at hl 5 rfl) ?_
      refine lv_iload_n hx hb dX10_merge_49 rfl (lv_at hl 2 rfl) ?_
      refine lv_icmp_ge (tgt := 129) hx hb dX10_merge_50 (by decide) (fun q8 => ?_) (fun q8 => ?_)
      · have h := ifp q8 h
        obtain rfl := Option.some.inj h
        exact rt_v hF hr hk (fun _ => 0) hW dX10_merge_129
      · have h := ifn q8 h
        refine lv_iload hx hb dX10_merge_53 (lv_at hl 4 rfl) ?_
        refine lv_iload_n hx hb dX10_merge_55 rfl (lv_at hl 2 rfl) ?_
        refine lv_icmp_ge (tgt := 86) hx hb dX10_merge_56 (by decide) (fun q9 => ?_) (fun q9 => ?_)
        · have h := ifp q9 h
          exact J86 x2 x3 x4 x5 x6 _ _ _ _ h hW (lv_sub hl [0, 1, 2, 3, 4, 5] rfl)
        · have h := ifn q9 h
          refine lv_iload hx hb dX10_merge_59 (lv_at hl 3 rfl) ?_
          refine lv_iload_n hx hb dX10_merge_61 rfl (lv_at hl 1 rfl) ?_
          refine lv_icmp_ge (tgt := 106) hx hb dX10_merge_62 (by decide) (fun q10 => ?_) (fun q10 => ?_)
          · have h := ifp q10 h
            exact J106 x2 x3 x4 x5 x6 _ _ _ _ h hW (lv_sub hl [0, 1, 2, 3, 4, 5] rfl)
          · have h := ifn q10 h
            refine lv_aload_n hx hb dX10_merge_65 rfl (lv_at hl 0 rfl) ?_
            refine lv_aload_n hx hb dX10_merge_66 rfl (lv_at hl 0 rfl) ?_
            refine g_X10_19 hF hW dX10_merge_67 ?_
            refine lv_iload hx hb dX10_merge_70 (lv_at hl 3 rfl) ?_
            obtain ⟨q11, h⟩ := ck_some h
            refine w_ild hF hW (pC_58 K a d _) q11 dX10_merge_72 ?_
            refine lv_aload_n hx hb dX10_merge_73 rfl (lv_at hl 0 rfl) ?_
            refine g_X10_19 hF hW dX10_merge_74 ?_
            refine lv_iload hx hb dX10_merge_77 (lv_at hl 4 rfl) ?_
            obtain ⟨q12, h⟩ := ck_some h
            refine w_ild hF hW (pC_58 K a d _) q12 dX10_merge_79 ?_
            obtain ⟨r13, hc15, h⟩ := bq_some h
            refine cV_i (ci := 10) (q0 := 55) (rest := []) hF hW mw_X10_116 (c_X10_isBehind l K a d hc15) ⟨Nat.le_of_ble_eq_true rfl, Nat.le_of_ble_eq_true rfl⟩ rfl rfl (pC_55 K a d _) rfl hl.1 rfl (Nat.le_of_ble_eq_true rfl) dX10_merge_80 ⟨Nat.le_of_ble_eq_true rfl, Nat.le_of_ble_eq_true rfl⟩ (fun _ H locs hW => ?_)
            refine lz_ne (tgt := 106) hx hb dX10_merge_83 (by decide) (fun q16 => ?_) (fun q16 => ?_)
            · have h := ifp q16 h
              exact J106 x2 x3 x4 x5 x6 _ _ _ _ h hW (lv_sub hl [0, 1, 2, 3, 4, 5] rfl)
            · have h := ifn q16 h
              exact J86 x2 x3 x4 x5 x6 _ _ _ _ h hW (lv_sub hl [0, 1, 2, 3, 4, 5] rfl)
  unfold f_X10_merge at h
  refine lv_aload_n hx hb dX10_merge_0 rfl (lv_at hl 0 rfl) ?_
  refine lv_aload_n hx hb dX10_merge_1 rfl (lv_at hl 0 rfl) ?_
  refine g_X10_15 hF hW dX10_merge_2 ?_
  refine lv_iload_n hx hb dX10_merge_5 rfl (lv_at hl 2 rfl) ?_
  refine lv_iconst (v := 1) hx hb dX10_merge_6 (by decide) ?_
  refine lv_isub hx hb dX10_merge_7 ?_
  obtain ⟨q1, h⟩ := ck_some h
  refine w_ild hF hW (pC_57 K a d _) q1 dX10_merge_8 ?_
  refine lv_aload_n hx hb dX10_merge_9 rfl (lv_at hl 0 rfl) ?_
  refine g_X10_15 hF hW dX10_merge_10 ?_
  refine lv_iload_n hx hb dX10_merge_13 rfl (lv_at hl 2 rfl) ?_
  obtain ⟨q2, h⟩ := ck_some h
  refine w_ild hF hW (pC_57 K a d _) q2 dX10_merge_14 ?_
  obtain ⟨r3, hc5, h⟩ := bq_some h
  refine cV_i (ci := 10) (q0 := 55) (rest := []) hF hW mw_X10_116 (c_X10_isBehind l K a d hc5) ⟨Nat.le_of_ble_eq_true rfl, Nat.le_of_ble_eq_true rfl⟩ rfl rfl (pC_55 K a d _) rfl hl.1 rfl (Nat.le_of_ble_eq_true rfl) dX10_merge_15 ⟨Nat.le_of_ble_eq_true rfl, Nat.le_of_ble_eq_true rfl⟩ (fun _ H locs hW => ?_)
  refine lz_ne (tgt := 22) hx hb dX10_merge_18 (by decide) (fun q6 => ?_) (fun q6 => ?_)
  · have h := ifp q6 h
    refine lv_aload_n hx hb dX10_merge_22 rfl (lv_at hl 0 rfl) ?_
    refine g_X10_15 hF hW dX10_merge_23 ?_
    refine lv_iload_n hx hb dX10_merge_26 rfl (lv_at hl 1 rfl) ?_
    refine lv_aload_n hx hb dX10_merge_27 rfl (lv_at hl 0 rfl) ?_
    refine g_X10_19 hF hW dX10_merge_28 ?_
    refine lv_iload_n hx hb dX10_merge_31 rfl (lv_at hl 1 rfl) ?_
    refine lv_iload_n hx hb dX10_merge_32 rfl (lv_at hl 3 rfl) ?_
    refine lv_iload_n hx hb dX10_merge_33 rfl (lv_at hl 1 rfl) ?_
    refine lv_isub hx hb dX10_merge_34 ?_
    obtain ⟨q7, h⟩ := ca_some h
    refine w_cpyi (rest := []) hF hW al_X10_120 ac_n ac_s ac_i (pC_57 K a d _) (pC_58 K a d _) q7 (vC_58 K a d _ _) hl.1 (Nat.le_of_ble_eq_true rfl) (Nat.le_of_ble_eq_true rfl) dX10_merge_35 (fun H locs hW => ?_)
    refine lv_iload_n hx hb dX10_merge_38 rfl (lv_at hl 1 rfl) ?_
    refine lv_istore (lv' := [(4, .int x1), (0, .ref (a 55)), (1, .int x1), (2, .int x2), (3, .int x3)]) hx hb dX10_merge_39 hl (by decide) rfl (fun ls hl => ?_)
    refine lv_iload_n hx hb dX10_merge_41 rfl (lv_at hl 3 rfl) ?_
    refine lv_istore (lv' := [(5, .int x2), (4, .int x1), (0, .ref (a 55)), (1, .int x1), (2, .int x2), (3, .int x3)]) hx hb dX10_merge_42 hl (by decide) rfl (fun ls hl => ?_)
    refine lv_iload_n hx hb dX10_merge_44 rfl (lv_at hl 3 rfl) ?_
    refine lv_istore (lv' := [(6, .int x1), (5, .int x2), (4, .int x1), (0, .ref (a 55)), (1, .int x1), (2, .int x2), (3, .int x3)]) hx hb dX10_merge_45 hl (by decide) rfl (fun ls hl => ?_)
    exact J47 100000 x2 x3 x1 x2 x1 _ _ _ _ h hW (lv_sub hl [3, 5, 6, 2, 1, 0] rfl)
  · have h := ifn q6 h
    obtain rfl := Option.some.inj h
    exact rt_v hF hr hk (fun _ => 0) hW dX10_merge_21
