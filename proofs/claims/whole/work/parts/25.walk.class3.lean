set_option maxRecDepth 100000 in
set_option maxHeartbeats 1000000 in
theorem c_X10_isEarly (l : Launch) (K : Kx) (a d : Nat → Nat) {M : Mem} {x1 : Int32} {r0 : Bool} (h : f_X10_isEarly M x1 = some r0) : CMi l yX10_isEarly cX10_isEarly 3 (some .boolean) ({ frames := 1, cells := 0, slots := 0, locals := 21 } : Room) K [.ref (a 55), .int x1] (wC K a d M) (fun _ => wC K a d M) (bI r0) := by
  refine cs_i (by decide +kernel) (Nat.le_of_ble_eq_true rfl) ?_
  intro p e s m args below meth c A ls hF hr hk hnm hW hl
  have hx := hF.1
  have hb := hF.2.1
  have hl : lv_has ls 3 [(0, .ref (a 55)), (1, .int x1)] := hl
  obtain ⟨H, hH⟩ : ∃ z, z = s.heap := ⟨_, rfl⟩
  rw [← hH] at hW ⊢
  unfold f_X10_isEarly at h
  refine lv_iload_n hx hb dX10_isEarly_0 rfl (lv_at hl 1 rfl) ?_
  refine lv_iconst (v := 3) hx hb dX10_isEarly_1 (by decide) ?_
  refine lv_imul hx hb dX10_isEarly_2 ?_
  refine lv_istore_n (lv' := [(2, .int (x1 * 3)), (0, .ref (a 55)), (1, .int x1)]) hx hb dX10_isEarly_3 rfl hl (by decide) rfl (fun ls hl => ?_)
  refine lv_aload_n hx hb dX10_isEarly_4 rfl (lv_at hl 1 rfl) ?_
  refine g_X10_32 hF hW dX10_isEarly_5 ?_
  refine lv_aload_n hx hb dX10_isEarly_8 rfl (lv_at hl 1 rfl) ?_
  refine g_X10_65 hF hW dX10_isEarly_9 ?_
  refine g_X10_153 hF hW dX10_isEarly_12 ?_
  refine lv_iload_n hx hb dX10_isEarly_15 rfl (lv_at hl 0 rfl) ?_
  obtain ⟨q1, h⟩ := ck_some h
  refine w_ild hF hW (pC_41 K a d _) q1 dX10_isEarly_16 ?_
  obtain ⟨r2, hc4, h⟩ := bq_some h
  refine cS_i (rest := []) hF hW mw_X10_156 (c_X10_latestAt_t l K a d hc4) ⟨Nat.le_of_ble_eq_true rfl, Nat.le_of_ble_eq_true rfl⟩ rfl hl.1 rfl (Nat.le_of_ble_eq_true rfl) dX10_isEarly_17 ⟨Nat.le_of_ble_eq_true rfl, Nat.le_of_ble_eq_true rfl⟩ (fun _ H locs hW => ?_)
  refine lv_aload_n hx hb dX10_isEarly_20 rfl (lv_at hl 1 rfl) ?_
  refine g_X10_22 hF hW dX10_isEarly_21 ?_
  refine lv_iload_n hx hb dX10_isEarly_24 rfl (lv_at hl 2 rfl) ?_
  obtain ⟨q5, h⟩ := ck_some h
  refine w_ild hF hW (pC_59 K a d _) q5 dX10_isEarly_25 ?_
  refine lv_icmp_gt (tgt := 83) hx hb dX10_isEarly_26 (by decide) (fun q6 => ?_) (fun q6 => ?_)
  · have h := ifp q6 h
    refine lv_iconst (v := 1) hx hb dX10_isEarly_83 (by decide) ?_
    refine lv_goto (tgt := 88) hx hb dX10_isEarly_84 (by decide) ?_
    obtain rfl := Option.some.inj h
    exact rt_i hF hr hk (bI_n true) (fun _ => 0) hW rfl dX10_isEarly_88
  · have h := ifn q6 h
    refine lv_aload_n hx hb dX10_isEarly_29 rfl (lv_at hl 1 rfl) ?_
    refine g_X10_29 hF hW dX10_isEarly_30 ?_
    refine lv_aload_n hx hb dX10_isEarly_33 rfl (lv_at hl 1 rfl) ?_
    refine g_X10_65 hF hW dX10_isEarly_34 ?_
    refine g_X10_153 hF hW dX10_isEarly_37 ?_
    refine lv_iload_n hx hb dX10_isEarly_40 rfl (lv_at hl 0 rfl) ?_
    refine lv_iconst (v := 1) hx hb dX10_isEarly_41 (by decide) ?_
    refine lv_iadd hx hb dX10_isEarly_42 ?_
    obtain ⟨q7, h⟩ := ck_some h
    refine w_ild hF hW (pC_41 K a d _) q7 dX10_isEarly_43 ?_
    obtain ⟨r8, hc10, h⟩ := bq_some h
    refine cS_i (rest := []) hF hW mw_X10_156 (c_X10_latestAt_w l K a d hc10) ⟨Nat.le_of_ble_eq_true rfl, Nat.le_of_ble_eq_true rfl⟩ rfl hl.1 rfl (Nat.le_of_ble_eq_true rfl) dX10_isEarly_44 ⟨Nat.le_of_ble_eq_true rfl, Nat.le_of_ble_eq_true rfl⟩ (fun _ H locs hW => ?_)
    refine lv_aload_n hx hb dX10_isEarly_47 rfl (lv_at hl 1 rfl) ?_
    refine g_X10_22 hF hW dX10_isEarly_48 ?_
    refine lv_iload_n hx hb dX10_isEarly_51 rfl (lv_at hl 2 rfl) ?_
    obtain ⟨q11, h⟩ := ck_some h
    refine w_ild hF hW (pC_59 K a d _) q11 dX10_isEarly_52 ?_
    refine lv_icmp_gt (tgt := 83) hx hb dX10_isEarly_53 (by decide) (fun q12 => ?_) (fun q12 => ?_)
    · have h := ifp q12 h
      refine lv_iconst (v := 1) hx hb dX10_isEarly_83 (by decide) ?_
      refine lv_goto (tgt := 88) hx hb dX10_isEarly_84 (by decide) ?_
      obtain rfl := Option.some.inj h
      exact rt_i hF hr hk (bI_n true) (fun _ => 0) hW rfl dX10_isEarly_88
    · have h := ifn q12 h
      refine lv_aload_n hx hb dX10_isEarly_56 rfl (lv_at hl 1 rfl) ?_
      refine g_X10_29 hF hW dX10_isEarly_57 ?_
      refine lv_aload_n hx hb dX10_isEarly_60 rfl (lv_at hl 1 rfl) ?_
      refine g_X10_65 hF hW dX10_isEarly_61 ?_
      refine g_X10_153 hF hW dX10_isEarly_64 ?_
      refine lv_iload_n hx hb dX10_isEarly_67 rfl (lv_at hl 0 rfl) ?_
      refine lv_iconst (v := 2) hx hb dX10_isEarly_68 (by decide) ?_
      refine lv_iadd hx hb dX10_isEarly_69 ?_
      obtain ⟨q13, h⟩ := ck_some h
      refine w_ild hF hW (pC_41 K a d _) q13 dX10_isEarly_70 ?_
      obtain ⟨r14, hc16, h⟩ := bq_some h
      refine cS_i (rest := []) hF hW mw_X10_156 (c_X10_latestAt_w l K a d hc16) ⟨Nat.le_of_ble_eq_true rfl, Nat.le_of_ble_eq_true rfl⟩ rfl hl.1 rfl (Nat.le_of_ble_eq_true rfl) dX10_isEarly_71 ⟨Nat.le_of_ble_eq_true rfl, Nat.le_of_ble_eq_true rfl⟩ (fun _ H locs hW => ?_)
      refine lv_aload_n hx hb dX10_isEarly_74 rfl (lv_at hl 1 rfl) ?_
      refine g_X10_22 hF hW dX10_isEarly_75 ?_
      refine lv_iload_n hx hb dX10_isEarly_78 rfl (lv_at hl 2 rfl) ?_
      obtain ⟨q17, h⟩ := ck_some h
      refine w_ild hF hW (pC_59 K a d _) q17 dX10_isEarly_79 ?_
      refine lv_icmp_le (tgt := 87) hx hb dX10_isEarly_80 (by decide) (fun q18 => ?_) (fun q18 => ?_)
      · have h := ifp q18 h
        refine lv_iconst (v := 0) hx hb dX10_isEarly_87 (by decide) ?_
        obtain rfl := Option.some.inj h
        exact rt_i hF hr hk (bI_n false) (fun _ => 0) hW rfl dX10_isEarly_88
      · have h := ifn q18 h
        refine lv_iconst (v := 1) hx hb dX10_isEarly_83 (by decide) ?_
        refine lv_goto (tgt := 88) hx hb dX10_isEarly_84 (by decide) ?_
        obtain rfl := Option.some.inj h
        exact rt_i hF hr hk (bI_n true) (fun _ => 0) hW rfl dX10_isEarly_88
set_option maxRecDepth 100000 in
set_option maxHeartbeats 1000000 in
theorem c_X10_endOfLine (l : Launch) (K : Kx) (a d : Nat → Nat) {M : Mem} {x1 : Int32} {r0 : Int32} (h : f_X10_endOfLine M x1 = some r0) : CMi l yX10_endOfLine cX10_endOfLine 3 (some .int) ({ frames := 2, cells := 0, slots := 0, locals := 50 } : Room) K [.ref (a 55), .int x1] (wC K a d M) (fun _ => wC K a d M) r0 := by
  refine cs_i (by decide +kernel) (Nat.le_of_ble_eq_true rfl) ?_
  intro p e s m args below meth c A ls hF hr hk hnm hW hl
  have hx := hF.1
  have hb := hF.2.1
  have hl : lv_has ls 3 [(0, .ref (a 55)), (1, .int x1)] := hl
  obtain ⟨H, hH⟩ : ∃ z, z = s.heap := ⟨_, rfl⟩
  rw [← hH] at hW ⊢
  have J4 : ∀ (n4 : Nat) (x1 : Int32) (x2 : Int32) (M : Mem) (H : Heap) (locs : List Loc) (ls : Array Slot), f_X10_endOfLine_4 n4 x1 x2 M = some r0 → Wd K A s (wC K a d M) H locs → lv_has ls 3 [(0, .ref (a 55)), (1, .int x1), (2, .int x2)] → W p l e ({ frames := 2, cells := 0, slots := 0, locals := 50 } : Room) s m args below meth c H locs 0 0 (EndI K A (fun _ => wC K a d M) r0 below args s ({ frames := 2, cells := 0, slots := 0, locals := 50 } : Room)) (F0 m 4 ls []) := by
    intro n4
    induction n4 with
    | zero => intro x1 x2 M H locs ls h; exact absurd h (by simp [f_X10_endOfLine_4])
    | succ n4 ih4 =>
      intro x1 x2 M H locs ls h hW hl
      rw [f_X10_endOfLine_4] at h
      refine lv_iload_n hx hb dX10_endOfLine_4 rfl (lv_at hl 2 rfl) ?_
      refine lv_aload_n hx hb dX10_endOfLine_5 rfl (lv_at hl 0 rfl) ?_
      refine g_X10_61 hF hW dX10_endOfLine_6 ?_
      refine g_X10_69 hF hW dX10_endOfLine_9 ?_
      refine lv_icmp_ge (tgt := 30) hx hb dX10_endOfLine_12 (by decide) (fun q1 => ?_) (fun q1 => ?_)
      · have h := ifp q1 h
        refine lv_iload_n hx hb dX10_endOfLine_30 rfl (lv_at hl 2 rfl) ?_
        obtain rfl := Option.some.inj h
        exact rt_i hF hr hk rfl (fun _ => 0) hW rfl dX10_endOfLine_31
      · have h := ifn q1 h
        refine lv_aload_n hx hb dX10_endOfLine_15 rfl (lv_at hl 0 rfl) ?_
        refine lv_iload_n hx hb dX10_endOfLine_16 rfl (lv_at hl 1 rfl) ?_
        refine lv_iload_n hx hb dX10_endOfLine_17 rfl (lv_at hl 2 rfl) ?_
        obtain ⟨r2, hc4, h⟩ := bq_some h
        refine cV_i (ci := 10) (q0 := 55) (rest := []) hF hW mw_X10_170 (c_X10_goesOn l K a d hc4) ⟨Nat.le_of_ble_eq_true rfl, Nat.le_of_ble_eq_true rfl⟩ rfl rfl (pC_55 K a d _) rfl hl.1 rfl (Nat.le_of_ble_eq_true rfl) dX10_endOfLine_18 ⟨Nat.le_of_ble_eq_true rfl, Nat.le_of_ble_eq_true rfl⟩ (fun _ H locs hW => ?_)
        refine lz_eq (tgt := 30) hx hb dX10_endOfLine_21 (by decide) (fun q5 => ?_) (fun q5 => ?_)
        · have h := ifn q5 h
          refine lv_iload_n hx hb dX10_endOfLine_30 rfl (lv_at hl 2 rfl) ?_
          obtain rfl := Option.some.inj h
          exact rt_i hF hr hk rfl (fun _ => 0) hW rfl dX10_endOfLine_31
        · have h := ifp q5 h
          refine lv_iinc (v := (x2 + 1)) (lv' := [(2, .int (x2 + 1)), (0, .ref (a 55)), (1, .int x1)]) hx hb dX10_endOfLine_24 hl (k := 2) rfl rfl (by decide) rfl (fun ls hl => ?_)
          refine lv_goto (tgt := 4) hx hb dX10_endOfLine_27 (by decide) ?_
          exact ih4 x1 (x2 + 1) _ _ _ _ h hW (lv_sub hl [1, 2, 0] rfl)
  unfold f_X10_endOfLine at h
  refine lv_iload_n hx hb dX10_endOfLine_0 rfl (lv_at hl 1 rfl) ?_
  refine lv_iconst (v := 1) hx hb dX10_endOfLine_1 (by decide) ?_
  refine lv_iadd hx hb dX10_endOfLine_2 ?_
  refine lv_istore_n (lv' := [(2, .int (x1 + 1)), (0, .ref (a 55)), (1, .int x1)]) hx hb dX10_endOfLine_3 rfl hl (by decide) rfl (fun ls hl => ?_)
  exact J4 100000 x1 (x1 + 1) _ _ _ _ h hW (lv_sub hl [1, 2, 0] rfl)
set_option maxRecDepth 100000 in
set_option maxHeartbeats 1000000 in
theorem c_X11_term (l : Launch) (K : Kx) (a d : Nat → Nat) {M M0 : Mem} {x1 : Int32} {x2 : Int32} {r0 : Int32} (h : f_X11_term M x1 x2 = some (r0, M0)) : CMi l yX11_term cX11_term 3 (some .int) ({ frames := 1, cells := 0, slots := 0, locals := 22 } : Room) K [.ref (a 0), .int x1, .int x2] (wC K a d M) (fun _ => wC K a d M0) r0 := by
  refine cs_i (by decide +kernel) (Nat.le_of_ble_eq_true rfl) ?_
  intro p e s m args below meth c A ls hF hr hk hnm hW hl
  have hx := hF.1
  have hb := hF.2.1
  have hl : lv_has ls 3 [(0, .ref (a 0)), (1, .int x1), (2, .int x2)] := hl
  obtain ⟨H, hH⟩ : ∃ z, z = s.heap := ⟨_, rfl⟩
  rw [← hH] at hW ⊢
  unfold f_X11_term at h
  refine lv_iload_n hx hb dX11_term_0 rfl (lv_at hl 1 rfl) ?_
  refine lv_iconst (v := 0) hx hb dX11_term_1 (by decide) ?_
  refine lv_bipush (v := 7) hx hb dX11_term_2 (by decide) ?_
  obtain ⟨r1, hc3, h⟩ := bq_some h
  refine cS_i (rest := []) hF hW mw_X11_113 (c_X11_within l K hc3) ⟨Nat.le_of_ble_eq_true rfl, Nat.le_of_ble_eq_true rfl⟩ rfl hl.1 rfl (Nat.le_of_ble_eq_true rfl) dX11_term_4 ⟨Nat.le_of_ble_eq_true rfl, Nat.le_of_ble_eq_true rfl⟩ (fun _ H locs hW => ?_)
  refine lz_eq (tgt := 23) hx hb dX11_term_7 (by decide) (fun q4 => ?_) (fun q4 => ?_)
  · have h := ifn q4 h
    refine lv_iconst (v := (-1)) hx hb dX11_term_23 (by decide) ?_
    obtain ⟨rfl, rfl⟩ := Prod.mk.inj (Option.some.inj h)
    exact rt_i hF hr hk rfl (fun _ => 0) hW rfl dX11_term_24
  · have h := ifp q4 h
    refine lv_iload_n hx hb dX11_term_10 rfl (lv_at hl 2 rfl) ?_
    refine lv_sipush (v := (-1000)) hx hb dX11_term_11 (by decide) ?_
    refine lv_sipush (v := 1000) hx hb dX11_term_14 (by decide) ?_
    obtain ⟨r5, hc7, h⟩ := bq_some h
    refine cS_i (rest := []) hF hW mw_X11_113 (c_X11_within l K hc7) ⟨Nat.le_of_ble_eq_true rfl, Nat.le_of_ble_eq_true rfl⟩ rfl hl.1 rfl (Nat.le_of_ble_eq_true rfl) dX11_term_17 ⟨Nat.le_of_ble_eq_true rfl, Nat.le_of_ble_eq_true rfl⟩ (fun _ H locs hW => ?_)
    refine lz_ne (tgt := 25) hx hb dX11_term_20 (by decide) (fun q8 => ?_) (fun q8 => ?_)
    · have h := ifp q8 h
      refine lv_aload_n hx hb dX11_term_25 rfl (lv_at hl 0 rfl) ?_
      refine g_X11_10 hF hW dX11_term_26 ?_
      refine g_X11_123 hF hW dX11_term_29 ?_
      refine lv_iload_n hx hb dX11_term_32 rfl (lv_at hl 1 rfl) ?_
      refine lv_iload_n hx hb dX11_term_33 rfl (lv_at hl 2 rfl) ?_
      obtain ⟨q9, h⟩ := ck_some h
      refine w_ist hF hW (pC_3 K a d _) q9 (uC_3 K a d _ _ _) dX11_term_34 (fun H locs hW => ?_)
      refine lv_iconst (v := 1) hx hb dX11_term_35 (by decide) ?_
      obtain ⟨rfl, rfl⟩ := Prod.mk.inj (Option.some.inj h)
      exact rt_i hF hr hk rfl (fun _ => 0) hW rfl dX11_term_36
    · have h := ifn q8 h
      refine lv_iconst (v := (-1)) hx hb dX11_term_23 (by decide) ?_
      obtain ⟨rfl, rfl⟩ := Prod.mk.inj (Option.some.inj h)
      exact rt_i hF hr hk rfl (fun _ => 0) hW rfl dX11_term_24
set_option maxRecDepth 100000 in
set_option maxHeartbeats 1000000 in
theorem c_X11_node (l : Launch) (K : Kx) (a d : Nat → Nat) {M : Mem} {x1 : Int32} {x2 : Int32} {r0 : Int32} (h : f_X11_node M x1 x2 = some r0) : CMi l yX11_node cX11_node 3 (some .int) ({ frames := 1, cells := 0, slots := 0, locals := 22 } : Room) K [.ref (a 0), .int x1, .int x2] (wC K a d M) (fun _ => wC K a d M) r0 := by
  refine cs_i (by decide +kernel) (Nat.le_of_ble_eq_true rfl) ?_
  intro p e s m args below meth c A ls hF hr hk hnm hW hl
  have hx := hF.1
  have hb := hF.2.1
  have hl : lv_has ls 3 [(0, .ref (a 0)), (1, .int x1), (2, .int x2)] := hl
  obtain ⟨H, hH⟩ : ∃ z, z = s.heap := ⟨_, rfl⟩
  rw [← hH] at hW ⊢
  unfold f_X11_node at h
  refine lv_aload_n hx hb dX11_node_0 rfl (lv_at hl 0 rfl) ?_
  refine g_X11_19 hF hW dX11_node_1 ?_
  refine lv_iload_n hx hb dX11_node_4 rfl (lv_at hl 1 rfl) ?_
  obtain ⟨r1, hc3, h⟩ := bq_some h
  refine cV_i (ci := 2) (q0 := 5) (rest := []) hF hW mw_X11_152 (c_X2_known l K a d hc3) ⟨Nat.le_of_ble_eq_true rfl, Nat.le_of_ble_eq_true rfl⟩ rfl rfl (pC_5 K a d _) rfl hl.1 rfl (Nat.le_of_ble_eq_true rfl) dX11_node_5 ⟨Nat.le_of_ble_eq_true rfl, Nat.le_of_ble_eq_true rfl⟩ (fun _ H locs hW => ?_)
  refine lz_eq (tgt := 20) hx hb dX11_node_8 (by decide) (fun q4 => ?_) (fun q4 => ?_)
  · have h := ifn q4 h
    refine lv_iconst (v := (-1)) hx hb dX11_node_20 (by decide) ?_
    obtain rfl := Option.some.inj h
    exact rt_i hF hr hk rfl (fun _ => 0) hW rfl dX11_node_21
  · have h := ifp q4 h
    refine lv_iload_n hx hb dX11_node_11 rfl (lv_at hl 2 rfl) ?_
    refine lv_iconst (v := 0) hx hb dX11_node_12 (by decide) ?_
    refine lv_iconst (v := 4) hx hb dX11_node_13 (by decide) ?_
    obtain ⟨r5, hc7, h⟩ := bq_some h
    refine cS_i (rest := []) hF hW mw_X11_113 (c_X11_within l K hc7) ⟨Nat.le_of_ble_eq_true rfl, Nat.le_of_ble_eq_true rfl⟩ rfl hl.1 rfl (Nat.le_of_ble_eq_true rfl) dX11_node_14 ⟨Nat.le_of_ble_eq_true rfl, Nat.le_of_ble_eq_true rfl⟩ (fun _ H locs hW => ?_)
    refine lz_ne (tgt := 22) hx hb dX11_node_17 (by decide) (fun q8 => ?_) (fun q8 => ?_)
    · have h := ifp q8 h
      refine lv_aload_n hx hb dX11_node_22 rfl (lv_at hl 0 rfl) ?_
      refine g_X11_19 hF hW dX11_node_23 ?_
      refine lv_iload_n hx hb dX11_node_26 rfl (lv_at hl 1 rfl) ?_
      refine lv_iload_n hx hb dX11_node_27 rfl (lv_at hl 2 rfl) ?_
      obtain ⟨r9, hc11, h⟩ := bq_some h
      refine cV_i (ci := 2) (q0 := 5) (rest := []) hF hW mw_X11_179 (c_X2_tell l K a d hc11) ⟨Nat.le_of_ble_eq_true rfl, Nat.le_of_ble_eq_true rfl⟩ rfl rfl (pC_5 K a d _) rfl hl.1 rfl (Nat.le_of_ble_eq_true rfl) dX11_node_28 ⟨Nat.le_of_ble_eq_true rfl, Nat.le_of_ble_eq_true rfl⟩ (fun _ H locs hW => ?_)
      obtain rfl := Option.some.inj h
      exact rt_i hF hr hk rfl (fun _ => 0) hW rfl dX11_node_31
    · have h := ifn q8 h
      refine lv_iconst (v := (-1)) hx hb dX11_node_20 (by decide) ?_
      obtain rfl := Option.some.inj h
      exact rt_i hF hr hk rfl (fun _ => 0) hW rfl dX11_node_21
set_option maxRecDepth 100000 in
set_option maxHeartbeats 1000000 in
theorem c_X11_note (l : Launch) (K : Kx) (a d : Nat → Nat) {M M0 : Mem} {x1 : Int32} {x2 : Int32} {r0 : Int32} (h : f_X11_note M x1 x2 = some (r0, M0)) : CMi l yX11_note cX11_note 3 (some .int) ({ frames := 3, cells := 0, slots := 0, locals := 86 } : Room) K [.ref (a 0), .int x1, .int x2] (wC K a d M) (fun _ => wC K a d M0) r0 := by
  refine cs_i (by decide +kernel) (Nat.le_of_ble_eq_true rfl) ?_
  intro p e s m args below meth c A ls hF hr hk hnm hW hl
  have hx := hF.1
  have hb := hF.2.1
  have hl : lv_has ls 3 [(0, .ref (a 0)), (1, .int x1), (2, .int x2)] := hl
  obtain ⟨H, hH⟩ : ∃ z, z = s.heap := ⟨_, rfl⟩
  rw [← hH] at hW ⊢
  unfold f_X11_note at h
  refine lv_aload_n hx hb dX11_note_0 rfl (lv_at hl 0 rfl) ?_
  refine g_X11_19 hF hW dX11_note_1 ?_
  refine lv_iload_n hx hb dX11_note_4 rfl (lv_at hl 1 rfl) ?_
  obtain ⟨r1, hc3, h⟩ := bq_some h
  refine cV_i (ci := 2) (q0 := 5) (rest := []) hF hW mw_X11_152 (c_X2_known l K a d hc3) ⟨Nat.le_of_ble_eq_true rfl, Nat.le_of_ble_eq_true rfl⟩ rfl rfl (pC_5 K a d _) rfl hl.1 rfl (Nat.le_of_ble_eq_true rfl) dX11_note_5 ⟨Nat.le_of_ble_eq_true rfl, Nat.le_of_ble_eq_true rfl⟩ (fun _ H locs hW => ?_)
  refine lz_eq (tgt := 17) hx hb dX11_note_8 (by decide) (fun q4 => ?_) (fun q4 => ?_)
  · have h := ifn q4 h
    refine lv_iconst (v := (-1)) hx hb dX11_note_17 (by decide) ?_
    obtain ⟨rfl, rfl⟩ := Prod.mk.inj (Option.some.inj h)
    exact rt_i hF hr hk rfl (fun _ => 0) hW rfl dX11_note_18
  · have h := ifp q4 h
    refine lv_iload_n hx hb dX11_note_11 rfl (lv_at hl 2 rfl) ?_
    refine lv_bipush (v := 12) hx hb dX11_note_12 (by decide) ?_
    refine lv_icmp_le (tgt := 19) hx hb dX11_note_14 (by decide) (fun q5 => ?_) (fun q5 => ?_)
    · have h := ifp q5 h
      refine lv_iload_n hx hb dX11_note_19 rfl (lv_at hl 2 rfl) ?_
      refine lv_if_ge (tgt := 29) hx hb dX11_note_20 (by decide) (fun q6 => ?_) (fun q6 => ?_)
      · have h := ifp q6 h
        refine lv_aload_n hx hb dX11_note_29 rfl (lv_at hl 0 rfl) ?_
        refine g_X11_26 hF hW dX11_note_30 ?_
        refine lv_iload_n hx hb dX11_note_33 rfl (lv_at hl 1 rfl) ?_
        refine lv_iload_n hx hb dX11_note_34 rfl (lv_at hl 2 rfl) ?_
        obtain ⟨M8, hc9, h⟩ := bm_some h
        refine cV_v (ci := 4) (q0 := 21) (rest := []) hF hW mw_X11_191 (c_X4_putNote l K a d hc9) ⟨Nat.le_of_ble_eq_true rfl, Nat.le_of_ble_eq_true rfl⟩ rfl rfl (pC_21 K a d _) rfl hl.1 rfl (Nat.le_of_ble_eq_true rfl) dX11_note_35 ⟨Nat.le_of_ble_eq_true rfl, Nat.le_of_ble_eq_true rfl⟩ (fun _ H locs hW => ?_)
        refine lv_iload_n hx hb dX11_note_38 rfl (lv_at hl 2 rfl) ?_
        obtain ⟨rfl, rfl⟩ := Prod.mk.inj (Option.some.inj h)
        exact rt_i hF hr hk rfl (fun _ => 0) hW rfl dX11_note_39
      · have h := ifn q6 h
        refine lv_aload_n hx hb dX11_note_23 rfl (lv_at hl 0 rfl) ?_
        refine lv_iconst (v := 5) hx hb dX11_note_24 (by decide) ?_
        obtain ⟨r10, M11, hc12, h⟩ := bd_some h
        refine cV_i (ci := 11) (q0 := 0) (rest := []) hF hW mw_X11_163 (c_X11_meet l K a d hc12) ⟨Nat.le_of_ble_eq_true rfl, Nat.le_of_ble_eq_true rfl⟩ rfl rfl (pC_0 K a d _) rfl hl.1 rfl (Nat.le_of_ble_eq_true rfl) dX11_note_25 ⟨Nat.le_of_ble_eq_true rfl, Nat.le_of_ble_eq_true rfl⟩ (fun _ H locs hW => ?_)
        obtain ⟨rfl, rfl⟩ := Prod.mk.inj (Option.some.inj h)
        exact rt_i hF hr hk rfl (fun _ => 0) hW rfl dX11_note_28
    · have h := ifn q5 h
      refine lv_iconst (v := (-1)) hx hb dX11_note_17 (by decide) ?_
      obtain ⟨rfl, rfl⟩ := Prod.mk.inj (Option.some.inj h)
      exact rt_i hF hr hk rfl (fun _ => 0) hW rfl dX11_note_18
set_option maxRecDepth 100000 in
set_option maxHeartbeats 1000000 in
theorem c_X11_held (l : Launch) (K : Kx) (a d : Nat → Nat) {M M0 : Mem} {x1 : Int32} {x2 : Int32} {r0 : Int32} (h : f_X11_held M x1 x2 = some (r0, M0)) : CMi l yX11_held cX11_held 4 (some .int) ({ frames := 2, cells := 0, slots := 0, locals := 43 } : Room) K [.ref (a 0), .int x1, .int x2] (wC K a d M) (fun _ => wC K a d M0) r0 := by
  refine cs_i (by decide +kernel) (Nat.le_of_ble_eq_true rfl) ?_
  intro p e s m args below meth c A ls hF hr hk hnm hW hl
  have hx := hF.1
  have hb := hF.2.1
  have hl : lv_has ls 4 [(0, .ref (a 0)), (1, .int x1), (2, .int x2)] := hl
  obtain ⟨H, hH⟩ : ∃ z, z = s.heap := ⟨_, rfl⟩
  rw [← hH] at hW ⊢
  unfold f_X11_held at h
  refine lv_aload_n hx hb dX11_held_0 rfl (lv_at hl 0 rfl) ?_
  refine g_X11_19 hF hW dX11_held_1 ?_
  refine lv_iload_n hx hb dX11_held_4 rfl (lv_at hl 1 rfl) ?_
  obtain ⟨r1, hc3, h⟩ := bq_some h
  refine cV_i (ci := 2) (q0 := 5) (rest := []) hF hW mw_X11_152 (c_X2_known l K a d hc3) ⟨Nat.le_of_ble_eq_true rfl, Nat.le_of_ble_eq_true rfl⟩ rfl rfl (pC_5 K a d _) rfl hl.1 rfl (Nat.le_of_ble_eq_true rfl) dX11_held_5 ⟨Nat.le_of_ble_eq_true rfl, Nat.le_of_ble_eq_true rfl⟩ (fun _ H locs hW => ?_)
  refine lz_eq (tgt := 20) hx hb dX11_held_8 (by decide) (fun q4 => ?_) (fun q4 => ?_)
  · have h := ifn q4 h
    refine lv_iconst (v := (-1)) hx hb dX11_held_20 (by decide) ?_
    obtain ⟨rfl, rfl⟩ := Prod.mk.inj (Option.some.inj h)
    exact rt_i hF hr hk rfl (fun _ => 0) hW rfl dX11_held_21
  · have h := ifp q4 h
    refine lv_iload_n hx hb dX11_held_11 rfl (lv_at hl 2 rfl) ?_
    refine lv_iconst (v := 0) hx hb dX11_held_12 (by decide) ?_
    refine lv_iconst (v := 3) hx hb dX11_held_13 (by decide) ?_
    obtain ⟨r5, hc7, h⟩ := bq_some h
    refine cS_i (rest := []) hF hW mw_X11_113 (c_X11_within l K hc7) ⟨Nat.le_of_ble_eq_true rfl, Nat.le_of_ble_eq_true rfl⟩ rfl hl.1 rfl (Nat.le_of_ble_eq_true rfl) dX11_held_14 ⟨Nat.le_of_ble_eq_true rfl, Nat.le_of_ble_eq_true rfl⟩ (fun _ H locs hW => ?_)
    refine lz_ne (tgt := 22) hx hb dX11_held_17 (by decide) (fun q8 => ?_) (fun q8 => ?_)
    · have h := ifp q8 h
      refine lv_aload_n hx hb dX11_held_22 rfl (lv_at hl 0 rfl) ?_
      refine g_X11_26 hF hW dX11_held_23 ?_
      refine lv_iload_n hx hb dX11_held_26 rfl (lv_at hl 1 rfl) ?_
      obtain ⟨r9, hc11, h⟩ := bq_some h
      refine cV_i (ci := 4) (q0 := 21) (rest := []) hF hW mw_X11_194 (c_X4_isNote l K a d hc11) ⟨Nat.le_of_ble_eq_true rfl, Nat.le_of_ble_eq_true rfl⟩ rfl rfl (pC_21 K a d _) rfl hl.1 rfl (Nat.le_of_ble_eq_true rfl) dX11_held_27 ⟨Nat.le_of_ble_eq_true rfl, Nat.le_of_ble_eq_true rfl⟩ (fun _ H locs hW => ?_)
      refine lz_eq (tgt := 39) hx hb dX11_held_30 (by decide) (fun q12 => ?_) (fun q12 => ?_)
      · have h := ifn q12 h
        refine lv_aload_n hx hb dX11_held_39 rfl (lv_at hl 0 rfl) ?_
        refine g_X11_26 hF hW dX11_held_40 ?_
        refine lv_iload_n hx hb dX11_held_43 rfl (lv_at hl 1 rfl) ?_
        obtain ⟨r13, hc15, h⟩ := bq_some h
        refine cV_i (ci := 4) (q0 := 21) (rest := []) hF hW mw_X11_197 (c_X4_isEmpty l K a d hc15) ⟨Nat.le_of_ble_eq_true rfl, Nat.le_of_ble_eq_true rfl⟩ rfl rfl (pC_21 K a d _) rfl hl.1 rfl (Nat.le_of_ble_eq_true rfl) dX11_held_44 ⟨Nat.le_of_ble_eq_true rfl, Nat.le_of_ble_eq_true rfl⟩ (fun _ H locs hW => ?_)
        refine lz_eq (tgt := 56) hx hb dX11_held_47 (by decide) (fun q16 => ?_) (fun q16 => ?_)
        · have h := ifn q16 h
          refine lv_aload_n hx hb dX11_held_56 rfl (lv_at hl 0 rfl) ?_
          refine g_X11_26 hF hW dX11_held_57 ?_
          refine g_X11_200 hF hW dX11_held_60 ?_
          refine lv_iload_n hx hb dX11_held_63 rfl (lv_at hl 1 rfl) ?_
          obtain ⟨q17, h⟩ := ck_some h
          refine w_ild hF hW (pC_23 K a d _) q17 dX11_held_64 ?_
          refine lv_istore_n (lv' := [(3, .int (M.1 23 x1.toNatClampNeg)), (0, .ref (a 0)), (1, .int x1), (2, .int x2)]) hx hb dX11_held_65 rfl hl (by decide) rfl (fun ls hl => ?_)
          refine lv_aload_n hx hb dX11_held_66 rfl (lv_at hl 1 rfl) ?_
          refine g_X11_19 hF hW dX11_held_67 ?_
          refine lv_iload_n hx hb dX11_held_70 rfl (lv_at hl 0 rfl) ?_
          refine lv_iload_n hx hb dX11_held_71 rfl (lv_at hl 3 rfl) ?_
          obtain ⟨r18, hc20, h⟩ := bq_some h
          refine cV_i (ci := 2) (q0 := 5) (rest := []) hF hW mw_X11_203 (c_X2_isOfKind l K a d hc20) ⟨Nat.le_of_ble_eq_true rfl, Nat.le_of_ble_eq_true rfl⟩ rfl rfl (pC_5 K a d _) rfl hl.1 rfl (Nat.le_of_ble_eq_true rfl) dX11_held_72 ⟨Nat.le_of_ble_eq_true rfl, Nat.le_of_ble_eq_true rfl⟩ (fun _ H locs hW => ?_)
          refine lz_eq (tgt := 82) hx hb dX11_held_75 (by decide) (fun q21 => ?_) (fun q21 => ?_)
          · have h := ifn q21 h
            refine lv_aload_n hx hb dX11_held_82 rfl (lv_at hl 1 rfl) ?_
            refine lv_iconst (v := 3) hx hb dX11_held_83 (by decide) ?_
            obtain ⟨r22, M23, hc24, h⟩ := bd_some h
            refine cV_i (ci := 11) (q0 := 0) (rest := []) hF hW mw_X11_163 (c_X11_meet l K a d hc24) ⟨Nat.le_of_ble_eq_true rfl, Nat.le_of_ble_eq_true rfl⟩ rfl rfl (pC_0 K a d _) rfl hl.1 rfl (Nat.le_of_ble_eq_true rfl) dX11_held_84 ⟨Nat.le_of_ble_eq_true rfl, Nat.le_of_ble_eq_true rfl⟩ (fun _ H locs hW => ?_)
            obtain ⟨rfl, rfl⟩ := Prod.mk.inj (Option.some.inj h)
            exact rt_i hF hr hk rfl (fun _ => 0) hW rfl dX11_held_87
          · have h := ifp q21 h
            refine lv_iload_n hx hb dX11_held_78 rfl (lv_at hl 0 rfl) ?_
            refine lv_goto (tgt := 87) hx hb dX11_held_79 (by decide) ?_
            obtain ⟨rfl, rfl⟩ := Prod.mk.inj (Option.some.inj h)
            exact rt_i hF hr hk rfl (fun _ => 0) hW rfl dX11_held_87
        · have h := ifp q16 h
          refine lv_aload_n hx hb dX11_held_50 rfl (lv_at hl 0 rfl) ?_
          refine lv_iconst (v := 1) hx hb dX11_held_51 (by decide) ?_
          obtain ⟨r25, M26, hc27, h⟩ := bd_some h
          refine cV_i (ci := 11) (q0 := 0) (rest := []) hF hW mw_X11_163 (c_X11_meet l K a d hc27) ⟨Nat.le_of_ble_eq_true rfl, Nat.le_of_ble_eq_true rfl⟩ rfl rfl (pC_0 K a d _) rfl hl.1 rfl (Nat.le_of_ble_eq_true rfl) dX11_held_52 ⟨Nat.le_of_ble_eq_true rfl, Nat.le_of_ble_eq_true rfl⟩ (fun _ H locs hW => ?_)
          obtain ⟨rfl, rfl⟩ := Prod.mk.inj (Option.some.inj h)
          exact rt_i hF hr hk rfl (fun _ => 0) hW rfl dX11_held_55
      · have h := ifp q12 h
        refine lv_aload_n hx hb dX11_held_33 rfl (lv_at hl 0 rfl) ?_
        refine lv_iconst (v := 3) hx hb dX11_held_34 (by decide) ?_
        obtain ⟨r28, M29, hc30, h⟩ := bd_some h
        refine cV_i (ci := 11) (q0 := 0) (rest := []) hF hW mw_X11_163 (c_X11_meet l K a d hc30) ⟨Nat.le_of_ble_eq_true rfl, Nat.le_of_ble_eq_true rfl⟩ rfl rfl (pC_0 K a d _) rfl hl.1 rfl (Nat.le_of_ble_eq_true rfl) dX11_held_35 ⟨Nat.le_of_ble_eq_true rfl, Nat.le_of_ble_eq_true rfl⟩ (fun _ H locs hW => ?_)
        obtain ⟨rfl, rfl⟩ := Prod.mk.inj (Option.some.inj h)
        exact rt_i hF hr hk rfl (fun _ => 0) hW rfl dX11_held_38
    · have h := ifn q8 h
      refine lv_iconst (v := (-1)) hx hb dX11_held_20 (by decide) ?_
      obtain ⟨rfl, rfl⟩ := Prod.mk.inj (Option.some.inj h)
      exact rt_i hF hr hk rfl (fun _ => 0) hW rfl dX11_held_21
set_option maxRecDepth 100000 in
set_option maxHeartbeats 1000000 in
theorem c_X11_noted (l : Launch) (K : Kx) (a d : Nat → Nat) {M M0 : Mem} {x1 : Int32} {x2 : Int32} {x3 : Int32} {r0 : Int32} (h : f_X11_noted M x1 x2 x3 = some (r0, M0)) : CMi l yX11_noted cX11_noted 4 (some .int) ({ frames := 1, cells := 0, slots := 0, locals := 24 } : Room) K [.ref (a 0), .int x1, .int x2, .int x3] (wC K a d M) (fun _ => wC K a d M0) r0 := by
  refine cs_i (by decide +kernel) (Nat.le_of_ble_eq_true rfl) ?_
  intro p e s m args below meth c A ls hF hr hk hnm hW hl
  have hx := hF.1
  have hb := hF.2.1
  have hl : lv_has ls 4 [(0, .ref (a 0)), (1, .int x1), (2, .int x2), (3, .int x3)] := hl
  obtain ⟨H, hH⟩ : ∃ z, z = s.heap := ⟨_, rfl⟩
  rw [← hH] at hW ⊢
  unfold f_X11_noted at h
  refine lv_aload_n hx hb dX11_noted_0 rfl (lv_at hl 0 rfl) ?_
  refine g_X11_19 hF hW dX11_noted_1 ?_
  refine lv_iload_n hx hb dX11_noted_4 rfl (lv_at hl 1 rfl) ?_
  obtain ⟨r1, hc3, h⟩ := bq_some h
  refine cV_i (ci := 2) (q0 := 5) (rest := []) hF hW mw_X11_152 (c_X2_known l K a d hc3) ⟨Nat.le_of_ble_eq_true rfl, Nat.le_of_ble_eq_true rfl⟩ rfl rfl (pC_5 K a d _) rfl hl.1 rfl (Nat.le_of_ble_eq_true rfl) dX11_noted_5 ⟨Nat.le_of_ble_eq_true rfl, Nat.le_of_ble_eq_true rfl⟩ (fun _ H locs hW => ?_)
  refine lz_ne (tgt := 13) hx hb dX11_noted_8 (by decide) (fun q4 => ?_) (fun q4 => ?_)
  · have h := ifp q4 h
    refine lv_aload_n hx hb dX11_noted_13 rfl (lv_at hl 0 rfl) ?_
    refine g_X11_26 hF hW dX11_noted_14 ?_
    refine lv_iload_n hx hb dX11_noted_17 rfl (lv_at hl 1 rfl) ?_
    obtain ⟨r5, hc7, h⟩ := bq_some h
    refine cV_i (ci := 4) (q0 := 21) (rest := []) hF hW mw_X11_197 (c_X4_isEmpty l K a d hc7) ⟨Nat.le_of_ble_eq_true rfl, Nat.le_of_ble_eq_true rfl⟩ rfl rfl (pC_21 K a d _) rfl hl.1 rfl (Nat.le_of_ble_eq_true rfl) dX11_noted_18 ⟨Nat.le_of_ble_eq_true rfl, Nat.le_of_ble_eq_true rfl⟩ (fun _ H locs hW => ?_)
    refine lz_eq (tgt := 30) hx hb dX11_noted_21 (by decide) (fun q8 => ?_) (fun q8 => ?_)
    · have h := ifn q8 h
      refine lv_aload_n hx hb dX11_noted_30 rfl (lv_at hl 0 rfl) ?_
      refine g_X11_26 hF hW dX11_noted_31 ?_
      refine lv_iload_n hx hb dX11_noted_34 rfl (lv_at hl 1 rfl) ?_
      obtain ⟨r9, hc11, h⟩ := bq_some h
      refine cV_i (ci := 4) (q0 := 21) (rest := []) hF hW mw_X11_194 (c_X4_isNote l K a d hc11) ⟨Nat.le_of_ble_eq_true rfl, Nat.le_of_ble_eq_true rfl⟩ rfl rfl (pC_21 K a d _) rfl hl.1 rfl (Nat.le_of_ble_eq_true rfl) dX11_noted_35 ⟨Nat.le_of_ble_eq_true rfl, Nat.le_of_ble_eq_true rfl⟩ (fun _ H locs hW => ?_)
      refine lz_ne (tgt := 47) hx hb dX11_noted_38 (by decide) (fun q12 => ?_) (fun q12 => ?_)
      · have h := ifp q12 h
        refine lv_iload_n hx hb dX11_noted_47 rfl (lv_at hl 2 rfl) ?_
        refine lv_iconst (v := 0) hx hb dX11_noted_48 (by decide) ?_
        refine lv_aload_n hx hb dX11_noted_49 rfl (lv_at hl 0 rfl) ?_
        refine g_X11_26 hF hW dX11_noted_50 ?_
        refine g_X11_200 hF hW dX11_noted_53 ?_
        refine lv_iload_n hx hb dX11_noted_56 rfl (lv_at hl 1 rfl) ?_
        obtain ⟨q13, h⟩ := ck_some h
        refine w_ild hF hW (pC_23 K a d _) q13 dX11_noted_57 ?_
        refine lv_iconst (v := 1) hx hb dX11_noted_58 (by decide) ?_
        refine lv_isub hx hb dX11_noted_59 ?_
        obtain ⟨r14, hc16, h⟩ := bq_some h
        refine cS_i (rest := []) hF hW mw_X11_113 (c_X11_within l K hc16) ⟨Nat.le_of_ble_eq_true rfl, Nat.le_of_ble_eq_true rfl⟩ rfl hl.1 rfl (Nat.le_of_ble_eq_true rfl) dX11_noted_60 ⟨Nat.le_of_ble_eq_true rfl, Nat.le_of_ble_eq_true rfl⟩ (fun _ H locs hW => ?_)
        refine lz_ne (tgt := 72) hx hb dX11_noted_63 (by decide) (fun q17 => ?_) (fun q17 => ?_)
        · have h := ifp q17 h
          refine lv_aload_n hx hb dX11_noted_72 rfl (lv_at hl 0 rfl) ?_
          refine g_X11_26 hF hW dX11_noted_73 ?_
          refine lv_iload_n hx hb dX11_noted_76 rfl (lv_at hl 1 rfl) ?_
          refine lv_iload_n hx hb dX11_noted_77 rfl (lv_at hl 2 rfl) ?_
          refine lv_iload_n hx hb dX11_noted_78 rfl (lv_at hl 3 rfl) ?_
          obtain ⟨r18, M19, hc20, h⟩ := bd_some h
          refine cV_i (ci := 4) (q0 := 21) (rest := []) hF hW mw_X11_206 (c_X4_change l K a d hc20) ⟨Nat.le_of_ble_eq_true rfl, Nat.le_of_ble_eq_true rfl⟩ rfl rfl (pC_21 K a d _) rfl hl.1 rfl (Nat.le_of_ble_eq_true rfl) dX11_noted_79 ⟨Nat.le_of_ble_eq_true rfl, Nat.le_of_ble_eq_true rfl⟩ (fun _ H locs hW => ?_)
          refine lv_sipush (v := 1000) hx hb dX11_noted_82 (by decide) ?_
          refine lv_iadd hx hb dX11_noted_85 ?_
          obtain ⟨rfl, rfl⟩ := Prod.mk.inj (Option.some.inj h)
          exact rt_i hF hr hk rfl (fun _ => 0) hW rfl dX11_noted_86
        · have h := ifn q17 h
          refine lv_aload_n hx hb dX11_noted_66 rfl (lv_at hl 0 rfl) ?_
          refine lv_iconst (v := 2) hx hb dX11_noted_67 (by decide) ?_
          obtain ⟨r21, M22, hc23, h⟩ := bd_some h
          refine cV_i (ci := 11) (q0 := 0) (rest := []) hF hW mw_X11_163 (c_X11_meet l K a d hc23) ⟨Nat.le_of_ble_eq_true rfl, Nat.le_of_ble_eq_true rfl⟩ rfl rfl (pC_0 K a d _) rfl hl.1 rfl (Nat.le_of_ble_eq_true rfl) dX11_noted_68 ⟨Nat.le_of_ble_eq_true rfl, Nat.le_of_ble_eq_true rfl⟩ (fun _ H locs hW => ?_)
          obtain ⟨rfl, rfl⟩ := Prod.mk.inj (Option.some.inj h)
          exact rt_i hF hr hk rfl (fun _ => 0) hW rfl dX11_noted_71
      · have h := ifn q12 h
        refine lv_aload_n hx hb dX11_noted_41 rfl (lv_at hl 0 rfl) ?_
        refine lv_iconst (v := 3) hx hb dX11_noted_42 (by decide) ?_
        obtain ⟨r24, M25, hc26, h⟩ := bd_some h
        refine cV_i (ci := 11) (q0 := 0) (rest := []) hF hW mw_X11_163 (c_X11_meet l K a d hc26) ⟨Nat.le_of_ble_eq_true rfl, Nat.le_of_ble_eq_true rfl⟩ rfl rfl (pC_0 K a d _) rfl hl.1 rfl (Nat.le_of_ble_eq_true rfl) dX11_noted_43 ⟨Nat.le_of_ble_eq_true rfl, Nat.le_of_ble_eq_true rfl⟩ (fun _ H locs hW => ?_)
        obtain ⟨rfl, rfl⟩ := Prod.mk.inj (Option.some.inj h)
        exact rt_i hF hr hk rfl (fun _ => 0) hW rfl dX11_noted_46
    · have h := ifp q8 h
      refine lv_aload_n hx hb dX11_noted_24 rfl (lv_at hl 0 rfl) ?_
      refine lv_iconst (v := 1) hx hb dX11_noted_25 (by decide) ?_
      obtain ⟨r27, M28, hc29, h⟩ := bd_some h
      refine cV_i (ci := 11) (q0 := 0) (rest := []) hF hW mw_X11_163 (c_X11_meet l K a d hc29) ⟨Nat.le_of_ble_eq_true rfl, Nat.le_of_ble_eq_true rfl⟩ rfl rfl (pC_0 K a d _) rfl hl.1 rfl (Nat.le_of_ble_eq_true rfl) dX11_noted_26 ⟨Nat.le_of_ble_eq_true rfl, Nat.le_of_ble_eq_true rfl⟩ (fun _ H locs hW => ?_)
      obtain ⟨rfl, rfl⟩ := Prod.mk.inj (Option.some.inj h)
      exact rt_i hF hr hk rfl (fun _ => 0) hW rfl dX11_noted_29
  · have h := ifn q4 h
    refine lv_iconst (v := (-1)) hx hb dX11_noted_11 (by decide) ?_
    obtain ⟨rfl, rfl⟩ := Prod.mk.inj (Option.some.inj h)
    exact rt_i hF hr hk rfl (fun _ => 0) hW rfl dX11_noted_12
set_option maxRecDepth 100000 in
set_option maxHeartbeats 1000000 in
theorem c_X11_copy (l : Launch) (K : Kx) (a d : Nat → Nat) {M M0 : Mem} {x1 : Int32} {x2 : Int32} {x3 : Int32} {x4 : Int32} {x5 : Int32} {r0 : Int32} (h : f_X11_copy M x1 x2 x3 x4 x5 = some (r0, M0)) : CMi l yX11_copy cX11_copy 6 (some .int) ({ frames := 2, cells := 0, slots := 0, locals := 85 } : Room) K [.ref (a 0), .int x1, .int x2, .int x3, .int x4, .int x5] (wC K a d M) (fun _ => wC K a d M0) r0 := by
  refine cs_i (by decide +kernel) (Nat.le_of_ble_eq_true rfl) ?_
  intro p e s m args below meth c A ls hF hr hk hnm hW hl
  have hx := hF.1
  have hb := hF.2.1
  have hl : lv_has ls 6 [(0, .ref (a 0)), (1, .int x1), (2, .int x2), (3, .int x3), (4, .int x4), (5, .int x5)] := hl
  obtain ⟨H, hH⟩ : ∃ z, z = s.heap := ⟨_, rfl⟩
  rw [← hH] at hW ⊢
  have J46 : ∀ (M : Mem) (H : Heap) (locs : List Loc) (ls : Array Slot), f_X11_copy_46 M = some (r0, M0) → Wd K A s (wC K a d M) H locs → lv_has ls 6 [(0, .ref (a 0))] → W p l e ({ frames := 2, cells := 0, slots := 0, locals := 85 } : Room) s m args below meth c H locs 0 0 (EndI K A (fun _ => wC K a d M0) r0 below args s ({ frames := 2, cells := 0, slots := 0, locals := 85 } : Room)) (F0 m 46 ls []) := by
    intro M H locs ls h hW hl
    unfold f_X11_copy_46 at h
    refine lv_aload_n hx hb dX11_copy_46 rfl (lv_at hl 0 rfl) ?_
    refine lv_iconst (v := 3) hx hb dX11_copy_47 (by decide) ?_
    obtain ⟨r36, M37, hc38, h⟩ := bd_some h
    refine cV_i (ci := 11) (q0 := 0) (rest := []) hF hW mw_X11_163 (c_X11_meet l K a d hc38) ⟨Nat.le_of_ble_eq_true rfl, Nat.le_of_ble_eq_true rfl⟩ rfl rfl (pC_0 K a d _) rfl hl.1 rfl (Nat.le_of_ble_eq_true rfl) dX11_copy_48 ⟨Nat.le_of_ble_eq_true rfl, Nat.le_of_ble_eq_true rfl⟩ (fun _ H locs hW => ?_)
    obtain ⟨rfl, rfl⟩ := Prod.mk.inj (Option.some.inj h)
    exact rt_i hF hr hk rfl (fun _ => 0) hW rfl dX11_copy_51
  have J74 : ∀ (M : Mem) (H : Heap) (locs : List Loc) (ls : Array Slot), f_X11_copy_74 M = some (r0, M0) → Wd K A s (wC K a d M) H locs → lv_has ls 6 [(0, .ref (a 0))] → W p l e ({ frames := 2, cells := 0, slots := 0, locals := 85 } : Room) s m args below meth c H locs 0 0 (EndI K A (fun _ => wC K a d M0) r0 below args s ({ frames := 2, cells := 0, slots := 0, locals := 85 } : Room)) (F0 m 74 ls []) := by
    intro M H locs ls h hW hl
    unfold f_X11_copy_74 at h
    refine lv_aload_n hx hb dX11_copy_74 rfl (lv_at hl 0 rfl) ?_
    refine lv_iconst (v := 1) hx hb dX11_copy_75 (by decide) ?_
    obtain ⟨r39, M40, hc41, h⟩ := bd_some h
    refine cV_i (ci := 11) (q0 := 0) (rest := []) hF hW mw_X11_163 (c_X11_meet l K a d hc41) ⟨Nat.le_of_ble_eq_true rfl, Nat.le_of_ble_eq_true rfl⟩ rfl rfl (pC_0 K a d _) rfl hl.1 rfl (Nat.le_of_ble_eq_true rfl) dX11_copy_76 ⟨Nat.le_of_ble_eq_true rfl, Nat.le_of_ble_eq_true rfl⟩ (fun _ H locs hW => ?_)
    obtain ⟨rfl, rfl⟩ := Prod.mk.inj (Option.some.inj h)
    exact rt_i hF hr hk rfl (fun _ => 0) hW rfl dX11_copy_79
  have J109 : ∀ (M : Mem) (H : Heap) (locs : List Loc) (ls : Array Slot), f_X11_copy_109 M = some (r0, M0) → Wd K A s (wC K a d M) H locs → lv_has ls 6 [(0, .ref (a 0))] → W p l e ({ frames := 2, cells := 0, slots := 0, locals := 85 } : Room) s m args below meth c H locs 0 0 (EndI K A (fun _ => wC K a d M0) r0 below args s ({ frames := 2, cells := 0, slots := 0, locals := 85 } : Room)) (F0 m 109 ls []) := by
    intro M H locs ls h hW hl
    unfold f_X11_copy_109 at h
    refine lv_aload_n hx hb dX11_copy_109 rfl (lv_at hl 0 rfl) ?_
    refine lv_iconst (v := 2) hx hb dX11_copy_110 (by decide) ?_
    obtain ⟨r42, M43, hc44, h⟩ := bd_some h
    refine cV_i (ci := 11) (q0 := 0) (rest := []) hF hW mw_X11_163 (c_X11_meet l K a d hc44) ⟨Nat.le_of_ble_eq_true rfl, Nat.le_of_ble_eq_true rfl⟩ rfl rfl (pC_0 K a d _) rfl hl.1 rfl (Nat.le_of_ble_eq_true rfl) dX11_copy_111 ⟨Nat.le_of_ble_eq_true rfl, Nat.le_of_ble_eq_true rfl⟩ (fun _ H locs hW => ?_)
    obtain ⟨rfl, rfl⟩ := Prod.mk.inj (Option.some.inj h)
    exact rt_i hF hr hk rfl (fun _ => 0) hW rfl dX11_copy_114
  unfold f_X11_copy at h
  refine lv_aload_n hx hb dX11_copy_0 rfl (lv_at hl 0 rfl) ?_
  refine g_X11_19 hF hW dX11_copy_1 ?_
  refine lv_iload_n hx hb dX11_copy_4 rfl (lv_at hl 1 rfl) ?_
  obtain ⟨r1, hc3, h⟩ := bq_some h
  refine cV_i (ci := 2) (q0 := 5) (rest := []) hF hW mw_X11_152 (c_X2_known l K a d hc3) ⟨Nat.le_of_ble_eq_true rfl, Nat.le_of_ble_eq_true rfl⟩ rfl rfl (pC_5 K a d _) rfl hl.1 rfl (Nat.le_of_ble_eq_true rfl) dX11_copy_5 ⟨Nat.le_of_ble_eq_true rfl, Nat.le_of_ble_eq_true rfl⟩ (fun _ H locs hW => ?_)
  refine lz_eq (tgt := 22) hx hb dX11_copy_8 (by decide) (fun q4 => ?_) (fun q4 => ?_)
  · have h := ifn q4 h
    refine lv_iconst (v := (-1)) hx hb dX11_copy_22 (by decide) ?_
    obtain ⟨rfl, rfl⟩ := Prod.mk.inj (Option.some.inj h)
    exact rt_i hF hr hk rfl (fun _ => 0) hW rfl dX11_copy_23
  · have h := ifp q4 h
    refine lv_aload_n hx hb dX11_copy_11 rfl (lv_at hl 0 rfl) ?_
    refine g_X11_19 hF hW dX11_copy_12 ?_
    refine lv_iload_n hx hb dX11_copy_15 rfl (lv_at hl 3 rfl) ?_
    obtain ⟨r5, hc7, h⟩ := bq_some h
    refine cV_i (ci := 2) (q0 := 5) (rest := []) hF hW mw_X11_152 (c_X2_known l K a d hc7) ⟨Nat.le_of_ble_eq_true rfl, Nat.le_of_ble_eq_true rfl⟩ rfl rfl (pC_5 K a d _) rfl hl.1 rfl (Nat.le_of_ble_eq_true rfl) dX11_copy_16 ⟨Nat.le_of_ble_eq_true rfl, Nat.le_of_ble_eq_true rfl⟩ (fun _ H locs hW => ?_)
    refine lz_ne (tgt := 24) hx hb dX11_copy_19 (by decide) (fun q8 => ?_) (fun q8 => ?_)
    · have h := ifp q8 h
      refine lv_aload_n hx hb dX11_copy_24 rfl (lv_at hl 0 rfl) ?_
      refine g_X11_26 hF hW dX11_copy_25 ?_
      refine lv_iload_n hx hb dX11_copy_28 rfl (lv_at hl 1 rfl) ?_
      obtain ⟨r9, hc11, h⟩ := bq_some h
      refine cV_i (ci := 4) (q0 := 21) (rest := []) hF hW mw_X11_210 (c_X4_isNode l K a d hc11) ⟨Nat.le_of_ble_eq_true rfl, Nat.le_of_ble_eq_true rfl⟩ rfl rfl (pC_21 K a d _) rfl hl.1 rfl (Nat.le_of_ble_eq_true rfl) dX11_copy_29 ⟨Nat.le_of_ble_eq_true rfl, Nat.le_of_ble_eq_true rfl⟩ (fun _ H locs hW => ?_)
      refine lz_ne (tgt := 46) hx hb dX11_copy_32 (by decide) (fun q12 => ?_) (fun q12 => ?_)
      · have h := ifp q12 h
        exact J46 _ _ _ _ h hW (lv_sub hl [0] rfl)
      · have h := ifn q12 h
        refine lv_aload_n hx hb dX11_copy_35 rfl (lv_at hl 0 rfl) ?_
        refine g_X11_26 hF hW dX11_copy_36 ?_
        refine lv_iload_n hx hb dX11_copy_39 rfl (lv_at hl 3 rfl) ?_
        obtain ⟨r13, hc15, h⟩ := bq_some h
        refine cV_i (ci := 4) (q0 := 21) (rest := []) hF hW mw_X11_210 (c_X4_isNode l K a d hc15) ⟨Nat.le_of_ble_eq_true rfl, Nat.le_of_ble_eq_true rfl⟩ rfl rfl (pC_21 K a d _) rfl hl.1 rfl (Nat.le_of_ble_eq_true rfl) dX11_copy_40 ⟨Nat.le_of_ble_eq_true rfl, Nat.le_of_ble_eq_true rfl⟩ (fun _ H locs hW => ?_)
        refine lz_eq (tgt := 52) hx hb dX11_copy_43 (by decide) (fun q16 => ?_) (fun q16 => ?_)
        · have h := ifn q16 h
          refine lv_aload_n hx hb dX11_copy_52 rfl (lv_at hl 0 rfl) ?_
          refine g_X11_26 hF hW dX11_copy_53 ?_
          refine lv_iload_n hx hb dX11_copy_56 rfl (lv_at hl 1 rfl) ?_
          obtain ⟨r17, hc19, h⟩ := bq_some h
          refine cV_i (ci := 4) (q0 := 21) (rest := []) hF hW mw_X11_197 (c_X4_isEmpty l K a d hc19) ⟨Nat.le_of_ble_eq_true rfl, Nat.le_of_ble_eq_true rfl⟩ rfl rfl (pC_21 K a d _) rfl hl.1 rfl (Nat.le_of_ble_eq_true rfl) dX11_copy_57 ⟨Nat.le_of_ble_eq_true rfl, Nat.le_of_ble_eq_true rfl⟩ (fun _ H locs hW => ?_)
          refine lz_ne (tgt := 74) hx hb dX11_copy_60 (by decide) (fun q20 => ?_) (fun q20 => ?_)
          · have h := ifp q20 h
            exact J74 _ _ _ _ h hW (lv_sub hl [0] rfl)
          · have h := ifn q20 h
            refine lv_aload_n hx hb dX11_copy_63 rfl (lv_at hl 0 rfl) ?_
            refine g_X11_26 hF hW dX11_copy_64 ?_
            refine lv_iload_n hx hb dX11_copy_67 rfl (lv_at hl 3 rfl) ?_
            obtain ⟨r21, hc23, h⟩ := bq_some h
            refine cV_i (ci := 4) (q0 := 21) (rest := []) hF hW mw_X11_197 (c_X4_isEmpty l K a d hc23) ⟨Nat.le_of_ble_eq_true rfl, Nat.le_of_ble_eq_true rfl⟩ rfl rfl (pC_21 K a d _) rfl hl.1 rfl (Nat.le_of_ble_eq_true rfl) dX11_copy_68 ⟨Nat.le_of_ble_eq_true rfl, Nat.le_of_ble_eq_true rfl⟩ (fun _ H locs hW => ?_)
            refine lz_eq (tgt := 80) hx hb dX11_copy_71 (by decide) (fun q24 => ?_) (fun q24 => ?_)
            · have h := ifn q24 h
              refine lv_aload_n hx hb dX11_copy_80 rfl (lv_at hl 0 rfl) ?_
              refine g_X11_26 hF hW dX11_copy_81 ?_
              refine lv_iload_n hx hb dX11_copy_84 rfl (lv_at hl 1 rfl) ?_
              refine lv_iload_n hx hb dX11_copy_85 rfl (lv_at hl 2 rfl) ?_
              refine lv_iload hx hb dX11_copy_86 (lv_at hl 5 rfl) ?_
              obtain ⟨r25, hc27, h⟩ := bq_some h
              refine cV_i (ci := 4) (q0 := 21) (rest := []) hF hW mw_X11_213 (c_X4_spans l K a d hc27) ⟨Nat.le_of_ble_eq_true rfl, Nat.le_of_ble_eq_true rfl⟩ rfl rfl (pC_21 K a d _) rfl hl.1 rfl (Nat.le_of_ble_eq_true rfl) dX11_copy_88 ⟨Nat.le_of_ble_eq_true rfl, Nat.le_of_ble_eq_true rfl⟩ (fun _ H locs hW => ?_)
              refine lz_eq (tgt := 109) hx hb dX11_copy_91 (by decide) (fun q28 => ?_) (fun q28 => ?_)
              · have h := ifn q28 h
                exact J109 _ _ _ _ h hW (lv_sub hl [0] rfl)
              · have h := ifp q28 h
                refine lv_aload_n hx hb dX11_copy_94 rfl (lv_at hl 0 rfl) ?_
                refine g_X11_26 hF hW dX11_copy_95 ?_
                refine lv_iload_n hx hb dX11_copy_98 rfl (lv_at hl 3 rfl) ?_
                refine lv_iload hx hb dX11_copy_99 (lv_at hl 4 rfl) ?_
                refine lv_iload hx hb dX11_copy_101 (lv_at hl 5 rfl) ?_
                obtain ⟨r29, hc31, h⟩ := bq_some h
                refine cV_i (ci := 4) (q0 := 21) (rest := []) hF hW mw_X11_213 (c_X4_spans l K a d hc31) ⟨Nat.le_of_ble_eq_true rfl, Nat.le_of_ble_eq_true rfl⟩ rfl rfl (pC_21 K a d _) rfl hl.1 rfl (Nat.le_of_ble_eq_true rfl) dX11_copy_103 ⟨Nat.le_of_ble_eq_true rfl, Nat.le_of_ble_eq_true rfl⟩ (fun _ H locs hW => ?_)
                refine lz_ne (tgt := 115) hx hb dX11_copy_106 (by decide) (fun q32 => ?_) (fun q32 => ?_)
                · have h := ifp q32 h
                  refine lv_aload_n hx hb dX11_copy_115 rfl (lv_at hl 0 rfl) ?_
                  refine g_X11_26 hF hW dX11_copy_116 ?_
                  refine lv_iload_n hx hb dX11_copy_119 rfl (lv_at hl 1 rfl) ?_
                  refine lv_iload_n hx hb dX11_copy_120 rfl (lv_at hl 2 rfl) ?_
                  refine lv_iload_n hx hb dX11_copy_121 rfl (lv_at hl 3 rfl) ?_
                  refine lv_iload hx hb dX11_copy_122 (lv_at hl 4 rfl) ?_
                  refine lv_iload hx hb dX11_copy_124 (lv_at hl 5 rfl) ?_
                  obtain ⟨M34, hc35, h⟩ := bm_some h
                  refine cV_v (ci := 4) (q0 := 21) (rest := []) hF hW mw_X11_216 (c_X4_move l K a d hc35) ⟨Nat.le_of_ble_eq_true rfl, Nat.le_of_ble_eq_true rfl⟩ rfl rfl (pC_21 K a d _) rfl hl.1 rfl (Nat.le_of_ble_eq_true rfl) dX11_copy_126 ⟨Nat.le_of_ble_eq_true rfl, Nat.le_of_ble_eq_true rfl⟩ (fun _ H locs hW => ?_)
                  refine lv_iconst (v := 1) hx hb dX11_copy_129 (by decide) ?_
                  obtain ⟨rfl, rfl⟩ := Prod.mk.inj (Option.some.inj h)
                  exact rt_i hF hr hk rfl (fun _ => 0) hW rfl dX11_copy_130
                · have h := ifn q32 h
                  exact J109 _ _ _ _ h hW (lv_sub hl [0] rfl)
            · have h := ifp q24 h
              exact J74 _ _ _ _ h hW (lv_sub hl [0] rfl)
        · have h := ifp q16 h
          exact J46 _ _ _ _ h hW (lv_sub hl [0] rfl)
    · have h := ifn q8 h
      refine lv_iconst (v := (-1)) hx hb dX11_copy_22 (by decide) ?_
      obtain ⟨rfl, rfl⟩ := Prod.mk.inj (Option.some.inj h)
      exact rt_i hF hr hk rfl (fun _ => 0) hW rfl dX11_copy_23
set_option maxRecDepth 100000 in
set_option maxHeartbeats 1000000 in
theorem c_X11_order (l : Launch) (K : Kx) (a d : Nat → Nat) {M M0 : Mem} {x1 : Int32} {x2 : Int32} {x3 : Int32} {r0 : Int32} (h : f_X11_order M x1 x2 x3 = some (r0, M0)) : CMi l yX11_order cX11_order 6 (some .int) ({ frames := 1, cells := 0, slots := 0, locals := 22 } : Room) K [.ref (a 0), .int x1, .int x2, .int x3] (wC K a d M) (fun _ => wC K a d M0) r0 := by
  refine cs_i (by decide +kernel) (Nat.le_of_ble_eq_true rfl) ?_
  intro p e s m args below meth c A ls hF hr hk hnm hW hl
  have hx := hF.1
  have hb := hF.2.1
  have hl : lv_has ls 6 [(0, .ref (a 0)), (1, .int x1), (2, .int x2), (3, .int x3)] := hl
  obtain ⟨H, hH⟩ : ∃ z, z = s.heap := ⟨_, rfl⟩
  rw [← hH] at hW ⊢
  unfold f_X11_order at h
  refine lv_aload_n hx hb dX11_order_0 rfl (lv_at hl 0 rfl) ?_
  refine g_X11_19 hF hW dX11_order_1 ?_
  refine lv_iload_n hx hb dX11_order_4 rfl (lv_at hl 1 rfl) ?_
  obtain ⟨r1, hc3, h⟩ := bq_some h
  refine cV_i (ci := 2) (q0 := 5) (rest := []) hF hW mw_X11_152 (c_X2_known l K a d hc3) ⟨Nat.le_of_ble_eq_true rfl, Nat.le_of_ble_eq_true rfl⟩ rfl rfl (pC_5 K a d _) rfl hl.1 rfl (Nat.le_of_ble_eq_true rfl) dX11_order_5 ⟨Nat.le_of_ble_eq_true rfl, Nat.le_of_ble_eq_true rfl⟩ (fun _ H locs hW => ?_)
  refine lz_eq (tgt := 21) hx hb dX11_order_8 (by decide) (fun q4 => ?_) (fun q4 => ?_)
  · have h := ifn q4 h
    refine lv_iconst (v := (-1)) hx hb dX11_order_21 (by decide) ?_
    obtain ⟨rfl, rfl⟩ := Prod.mk.inj (Option.some.inj h)
    exact rt_i hF hr hk rfl (fun _ => 0) hW rfl dX11_order_22
  · have h := ifp q4 h
    refine lv_iload_n hx hb dX11_order_11 rfl (lv_at hl 3 rfl) ?_
    refine lv_iconst (v := 0) hx hb dX11_order_12 (by decide) ?_
    refine lv_bipush (v := 6) hx hb dX11_order_13 (by decide) ?_
    obtain ⟨r5, hc7, h⟩ := bq_some h
    refine cS_i (rest := []) hF hW mw_X11_113 (c_X11_within l K hc7) ⟨Nat.le_of_ble_eq_true rfl, Nat.le_of_ble_eq_true rfl⟩ rfl hl.1 rfl (Nat.le_of_ble_eq_true rfl) dX11_order_15 ⟨Nat.le_of_ble_eq_true rfl, Nat.le_of_ble_eq_true rfl⟩ (fun _ H locs hW => ?_)
    refine lz_ne (tgt := 23) hx hb dX11_order_18 (by decide) (fun q8 => ?_) (fun q8 => ?_)
    · have h := ifp q8 h
      refine lv_aload_n hx hb dX11_order_23 rfl (lv_at hl 0 rfl) ?_
      refine g_X11_19 hF hW dX11_order_24 ?_
      refine lv_iload_n hx hb dX11_order_27 rfl (lv_at hl 1 rfl) ?_
      obtain ⟨r9, hc11, h⟩ := bq_some h
      refine cV_i (ci := 2) (q0 := 5) (rest := []) hF hW mw_X11_160 (c_X2_isAct l K a d hc11) ⟨Nat.le_of_ble_eq_true rfl, Nat.le_of_ble_eq_true rfl⟩ rfl rfl (pC_5 K a d _) rfl hl.1 rfl (Nat.le_of_ble_eq_true rfl) dX11_order_28 ⟨Nat.le_of_ble_eq_true rfl, Nat.le_of_ble_eq_true rfl⟩ (fun _ H locs hW => ?_)
      refine lz_ne (tgt := 40) hx hb dX11_order_31 (by decide) (fun q12 => ?_) (fun q12 => ?_)
      · have h := ifp q12 h
        refine lv_aload_n hx hb dX11_order_40 rfl (lv_at hl 0 rfl) ?_
        refine g_X11_19 hF hW dX11_order_41 ?_
        refine g_X11_169 hF hW dX11_order_44 ?_
        refine lv_iload_n hx hb dX11_order_47 rfl (lv_at hl 1 rfl) ?_
        obtain ⟨q13, h⟩ := ck_some h
        refine w_ild hF hW (pC_17 K a d _) q13 dX11_order_48 ?_
        refine lv_istore (lv' := [(4, .int (M.1 17 x1.toNatClampNeg)), (0, .ref (a 0)), (1, .int x1), (2, .int x2), (3, .int x3)]) hx hb dX11_order_49 hl (by decide) rfl (fun ls hl => ?_)
        refine lv_iload_n hx hb dX11_order_51 rfl (lv_at hl 3 rfl) ?_
        refine lv_iconst (v := 0) hx hb dX11_order_52 (by decide) ?_
        refine lv_aload_n hx hb dX11_order_53 rfl (lv_at hl 1 rfl) ?_
        refine g_X11_45 hF hW dX11_order_54 ?_
        refine g_X11_314 hF hW dX11_order_57 ?_
        refine g_X11_359_now hF hW dX11_order_60 ?_
        refine lv_iload hx hb dX11_order_63 (lv_at hl 0 rfl) ?_
        obtain ⟨q14, h⟩ := ck_some h
        refine w_ild hF hW (pC_29 K a d _) q14 dX11_order_65 ?_
        refine lv_iconst (v := 1) hx hb dX11_order_66 (by decide) ?_
        refine lv_isub hx hb dX11_order_67 ?_
        obtain ⟨r15, hc17, h⟩ := bq_some h
        refine cS_i (rest := []) hF hW mw_X11_113 (c_X11_within l K hc17) ⟨Nat.le_of_ble_eq_true rfl, Nat.le_of_ble_eq_true rfl⟩ rfl hl.1 rfl (Nat.le_of_ble_eq_true rfl) dX11_order_68 ⟨Nat.le_of_ble_eq_true rfl, Nat.le_of_ble_eq_true rfl⟩ (fun _ H locs hW => ?_)
        refine lz_ne (tgt := 77) hx hb dX11_order_71 (by decide) (fun q18 => ?_) (fun q18 => ?_)
        · have h := ifp q18 h
          refine lv_aload_n hx hb dX11_order_77 rfl (lv_at hl 1 rfl) ?_
          refine g_X11_45 hF hW dX11_order_78 ?_
          refine g_X11_314 hF hW dX11_order_81 ?_
          refine g_X11_323_now hF hW dX11_order_84 ?_
          refine lv_aload_n hx hb dX11_order_87 rfl (lv_at hl 1 rfl) ?_
          refine g_X11_45 hF hW dX11_order_88 ?_
          refine g_X11_314 hF hW dX11_order_91 ?_
          refine lv_iload hx hb dX11_order_94 (lv_at hl 0 rfl) ?_
          refine lv_iload_n hx hb dX11_order_96 rfl (lv_at hl 3 rfl) ?_
          obtain ⟨r19, hc21, h⟩ := bq_some h
          refine cV_i (ci := 7) (q0 := 27) (rest := [.ref (a 28)]) hF hW mw_X11_362 (c_X7_at l K a d hc21) ⟨Nat.le_of_ble_eq_true rfl, Nat.le_of_ble_eq_true rfl⟩ rfl rfl (pC_27 K a d _) rfl hl.1 rfl (Nat.le_of_ble_eq_true rfl) dX11_order_97 ⟨Nat.le_of_ble_eq_true rfl, Nat.le_of_ble_eq_true rfl⟩ (fun _ H locs hW => ?_)
          refine lv_iload_n hx hb dX11_order_100 rfl (lv_at hl 4 rfl) ?_
          refine lv_iadd hx hb dX11_order_101 ?_
          obtain ⟨q22, h⟩ := ck_some h
          refine w_ild hF hW (pC_28 K a d _) q22 dX11_order_102 ?_
          refine lv_istore (lv' := [(5, .int (M.1 28 (r19 + x3).toNatClampNeg)), (4, .int (M.1 17 x1.toNatClampNeg)), (0, .ref (a 0)), (1, .int x1), (2, .int x2), (3, .int x3)]) hx hb dX11_order_103 hl (by decide) rfl (fun ls hl => ?_)
          refine lv_iload_n hx hb dX11_order_105 rfl (lv_at hl 5 rfl) ?_
          refine lv_iconst (v := 5) hx hb dX11_order_106 (by decide) ?_
          refine lv_icmp_ge (tgt := 119) hx hb dX11_order_107 (by decide) (fun q23 => ?_) (fun q23 => ?_)
          · have h := ifp q23 h
            refine lv_iload hx hb dX11_order_119 (lv_at hl 0 rfl) ?_
            obtain ⟨rfl, rfl⟩ := Prod.mk.inj (Option.some.inj h)
            exact rt_i hF hr hk rfl (fun _ => 0) hW rfl dX11_order_121
          · have h := ifn q23 h
            refine lv_ldcw hx hb hF.2.2.2.1 (hF.2.2.1 _ ki_X11_365) dX11_order_110 ?_
            refine lv_iload hx hb dX11_order_113 (lv_at hl 0 rfl) ?_
            refine lv_iadd hx hb dX11_order_115 ?_
            refine lv_goto (tgt := 121) hx hb dX11_order_116 (by decide) ?_
            obtain ⟨rfl, rfl⟩ := Prod.mk.inj (Option.some.inj h)
            exact rt_i hF hr hk rfl (fun _ => 0) hW rfl dX11_order_121
        · have h := ifn q18 h
          refine lv_bipush (v := (-9)) hx hb dX11_order_74 (by decide) ?_
          obtain ⟨rfl, rfl⟩ := Prod.mk.inj (Option.some.inj h)
          exact rt_i hF hr hk rfl (fun _ => 0) hW rfl dX11_order_76
      · have h := ifn q12 h
        refine lv_aload_n hx hb dX11_order_34 rfl (lv_at hl 0 rfl) ?_
        refine lv_iconst (v := 3) hx hb dX11_order_35 (by decide) ?_
        obtain ⟨r24, M25, hc26, h⟩ := bd_some h
        refine cV_i (ci := 11) (q0 := 0) (rest := []) hF hW mw_X11_163 (c_X11_meet l K a d hc26) ⟨Nat.le_of_ble_eq_true rfl, Nat.le_of_ble_eq_true rfl⟩ rfl rfl (pC_0 K a d _) rfl hl.1 rfl (Nat.le_of_ble_eq_true rfl) dX11_order_36 ⟨Nat.le_of_ble_eq_true rfl, Nat.le_of_ble_eq_true rfl⟩ (fun _ H locs hW => ?_)
        obtain ⟨rfl, rfl⟩ := Prod.mk.inj (Option.some.inj h)
        exact rt_i hF hr hk rfl (fun _ => 0) hW rfl dX11_order_39
    · have h := ifn q8 h
      refine lv_iconst (v := (-1)) hx hb dX11_order_21 (by decide) ?_
      obtain ⟨rfl, rfl⟩ := Prod.mk.inj (Option.some.inj h)
      exact rt_i hF hr hk rfl (fun _ => 0) hW rfl dX11_order_22
set_option maxRecDepth 100000 in
set_option maxHeartbeats 1000000 in
theorem c_X11_ended (l : Launch) (K : Kx) (a d : Nat → Nat) {M : Mem} {x1 : Int32} {r0 : Int32} (h : f_X11_ended M x1 = some r0) : CMi l yX11_ended cX11_ended 2 (some .int) ({ frames := 1, cells := 0, slots := 0, locals := 22 } : Room) K [.ref (a 0), .int x1] (wC K a d M) (fun _ => wC K a d M) r0 := by
  refine cs_i (by decide +kernel) (Nat.le_of_ble_eq_true rfl) ?_
  intro p e s m args below meth c A ls hF hr hk hnm hW hl
  have hx := hF.1
  have hb := hF.2.1
  have hl : lv_has ls 2 [(0, .ref (a 0)), (1, .int x1)] := hl
  obtain ⟨H, hH⟩ : ∃ z, z = s.heap := ⟨_, rfl⟩
  rw [← hH] at hW ⊢
  unfold f_X11_ended at h
  refine lv_iload_n hx hb dX11_ended_0 rfl (lv_at hl 1 rfl) ?_
  refine lv_iconst (v := 0) hx hb dX11_ended_1 (by decide) ?_
  refine lv_iconst (v := 5) hx hb dX11_ended_2 (by decide) ?_
  obtain ⟨r1, hc3, h⟩ := bq_some h
  refine cS_i (rest := []) hF hW mw_X11_113 (c_X11_within l K hc3) ⟨Nat.le_of_ble_eq_true rfl, Nat.le_of_ble_eq_true rfl⟩ rfl hl.1 rfl (Nat.le_of_ble_eq_true rfl) dX11_ended_3 ⟨Nat.le_of_ble_eq_true rfl, Nat.le_of_ble_eq_true rfl⟩ (fun _ H locs hW => ?_)
  refine lz_ne (tgt := 11) hx hb dX11_ended_6 (by decide) (fun q4 => ?_) (fun q4 => ?_)
  · have h := ifp q4 h
    refine lv_iload_n hx hb dX11_ended_11 rfl (lv_at hl 1 rfl) ?_
    refine lv_if_ne (tgt := 20) hx hb dX11_ended_12 (by decide) (fun q5 => ?_) (fun q5 => ?_)
    · have h := ifn q5 h
      refine lv_iload_n hx hb dX11_ended_20 rfl (lv_at hl 1 rfl) ?_
      refine lv_iconst (v := 1) hx hb dX11_ended_21 (by decide) ?_
      refine lv_icmp_eq (tgt := 34) hx hb dX11_ended_22 (by decide) (fun q6 => ?_) (fun q6 => ?_)
      · have h := ifp q6 h
        refine lv_aload_n hx hb dX11_ended_34 rfl (lv_at hl 0 rfl) ?_
        refine g_X11_106 hF hW dX11_ended_35 ?_
        obtain rfl := Option.some.inj h
        exact rt_i hF hr hk rfl (fun _ => 0) hW rfl dX11_ended_38
      · have h := ifn q6 h
        refine lv_aload_n hx hb dX11_ended_25 rfl (lv_at hl 0 rfl) ?_
        refine g_X11_106 hF hW dX11_ended_26 ?_
        refine lv_bipush (v := (-9)) hx hb dX11_ended_29 (by decide) ?_
        refine lv_icmp_ne (tgt := 39) hx hb dX11_ended_31 (by decide) (fun q7 => ?_) (fun q7 => ?_)
        · have h := ifn q7 h
          refine lv_ldc2 hx hb hF.2.2.2.1 (hF.2.2.1 _ kl_X11_256) dX11_ended_39 ?_
          refine lv_aload_n hx hb dX11_ended_42 rfl (lv_at hl 0 rfl) ?_
          refine g_X11_109 hF hW dX11_ended_43 ?_
          refine lv_iload_n hx hb dX11_ended_46 rfl (lv_at hl 1 rfl) ?_
          refine lv_iconst (v := 2) hx hb dX11_ended_47 (by decide) ?_
          refine lv_isub hx hb dX11_ended_48 ?_
          obtain ⟨q8, h⟩ := ck_some h
          refine w_lld hF hW (pC_68 K a d _) q8 dX11_ended_49 ?_
          refine lv_ladd hx hb dX11_ended_50 ?_
          refine lv_l2i hx hb dX11_ended_51 rfl ?_
          obtain rfl := Option.some.inj h
          exact rt_i hF hr hk rfl (fun _ => 0) hW rfl dX11_ended_52
        · have h := ifp q7 h
          refine lv_aload_n hx hb dX11_ended_34 rfl (lv_at hl 0 rfl) ?_
          refine g_X11_106 hF hW dX11_ended_35 ?_
          obtain rfl := Option.some.inj h
          exact rt_i hF hr hk rfl (fun _ => 0) hW rfl dX11_ended_38
    · have h := ifp q5 h
      refine lv_aload_n hx hb dX11_ended_15 rfl (lv_at hl 0 rfl) ?_
      refine g_X11_103 hF hW dX11_ended_16 ?_
      obtain rfl := Option.some.inj h
      exact rt_i hF hr hk rfl (fun _ => 0) hW rfl dX11_ended_19
  · have h := ifn q4 h
    refine lv_iconst (v := (-1)) hx hb dX11_ended_9 (by decide) ?_
    obtain rfl := Option.some.inj h
    exact rt_i hF hr hk rfl (fun _ => 0) hW rfl dX11_ended_10
set_option maxRecDepth 100000 in
set_option maxHeartbeats 1000000 in
theorem c_X11_findings (l : Launch) (K : Kx) (a d : Nat → Nat) {M : Mem} {x1 : Int32} {r0 : Int32} (h : f_X11_findings M x1 = some r0) : CMi l yX11_findings cX11_findings 2 (some .int) ({ frames := 1, cells := 0, slots := 0, locals := 22 } : Room) K [.ref (a 0), .int x1] (wC K a d M) (fun _ => wC K a d M) r0 := by
  refine cs_i (by decide +kernel) (Nat.le_of_ble_eq_true rfl) ?_
  intro p e s m args below meth c A ls hF hr hk hnm hW hl
  have hx := hF.1
  have hb := hF.2.1
  have hl : lv_has ls 2 [(0, .ref (a 0)), (1, .int x1)] := hl
  obtain ⟨H, hH⟩ : ∃ z, z = s.heap := ⟨_, rfl⟩
  rw [← hH] at hW ⊢
  unfold f_X11_findings at h
  refine lv_iload_n hx hb dX11_findings_0 rfl (lv_at hl 1 rfl) ?_
  refine lv_iconst (v := 1) hx hb dX11_findings_1 (by decide) ?_
  refine lv_iconst (v := 5) hx hb dX11_findings_2 (by decide) ?_
  obtain ⟨r1, hc3, h⟩ := bq_some h
  refine cS_i (rest := []) hF hW mw_X11_113 (c_X11_within l K hc3) ⟨Nat.le_of_ble_eq_true rfl, Nat.le_of_ble_eq_true rfl⟩ rfl hl.1 rfl (Nat.le_of_ble_eq_true rfl) dX11_findings_3 ⟨Nat.le_of_ble_eq_true rfl, Nat.le_of_ble_eq_true rfl⟩ (fun _ H locs hW => ?_)
  refine lz_eq (tgt := 18) hx hb dX11_findings_6 (by decide) (fun q4 => ?_) (fun q4 => ?_)
  · have h := ifn q4 h
    refine lv_iconst (v := (-1)) hx hb dX11_findings_18 (by decide) ?_
    obtain rfl := Option.some.inj h
    exact rt_i hF hr hk rfl (fun _ => 0) hW rfl dX11_findings_19
  · have h := ifp q4 h
    refine lv_aload_n hx hb dX11_findings_9 rfl (lv_at hl 0 rfl) ?_
    refine g_X11_99 hF hW dX11_findings_10 ?_
    refine lv_iload_n hx hb dX11_findings_13 rfl (lv_at hl 1 rfl) ?_
    obtain ⟨q5, h⟩ := ck_some h
    refine w_ild hF hW (pC_67 K a d _) q5 dX11_findings_14 ?_
    refine lv_goto (tgt := 19) hx hb dX11_findings_15 (by decide) ?_
    obtain rfl := Option.some.inj h
    exact rt_i hF hr hk rfl (fun _ => 0) hW rfl dX11_findings_19
set_option maxRecDepth 100000 in
set_option maxHeartbeats 1000000 in
theorem c_X11_programChanged (l : Launch) (K : Kx) (a d : Nat → Nat) {M M0 : Mem}   (h : f_X11_programChanged M = some M0) : CMv l yX11_programChanged cX11_programChanged 1 ({ frames := 1, cells := 0, slots := 0, locals := 20 } : Room) K [.ref (a 0)] (wC K a d M) (fun _ => wC K a d M0) := by
  refine cs_v (by decide +kernel) (Nat.le_of_ble_eq_true rfl) ?_
  intro p e s m args below meth c A ls hF hr hk hnm hW hl
  have hx := hF.1
  have hb := hF.2.1
  have hl : lv_has ls 1 [(0, .ref (a 0))] := hl
  obtain ⟨H, hH⟩ : ∃ z, z = s.heap := ⟨_, rfl⟩
  rw [← hH] at hW ⊢
  unfold f_X11_programChanged at h
  refine lv_aload_n hx hb dX11_programChanged_0 rfl (lv_at hl 0 rfl) ?_
  refine g_X11_54 hF hW dX11_programChanged_1 ?_
  refine lv_iconst (v := 0) hx hb dX11_programChanged_4 (by decide) ?_
  refine s_X11_429 (x := false) hF hW dX11_programChanged_5 (fun H locs hW => ?_)
  refine lv_aload_n hx hb dX11_programChanged_8 rfl (lv_at hl 0 rfl) ?_
  obtain ⟨M2, hc3, h⟩ := bm_some h
  refine cV_v (ci := 11) (q0 := 0) (rest := []) hF hW mw_X11_176 (c_X11_aimsChanged l K a d hc3) ⟨Nat.le_of_ble_eq_true rfl, Nat.le_of_ble_eq_true rfl⟩ rfl rfl (pC_0 K a d _) rfl hl.1 rfl (Nat.le_of_ble_eq_true rfl) dX11_programChanged_9 ⟨Nat.le_of_ble_eq_true rfl, Nat.le_of_ble_eq_true rfl⟩ (fun _ H locs hW => ?_)
  refine lv_aload_n hx hb dX11_programChanged_12 rfl (lv_at hl 0 rfl) ?_
  obtain ⟨M5, hc6, h⟩ := bm_some h
  refine cV_v (ci := 11) (q0 := 0) (rest := []) hF hW mw_X11_356 (c_X11_ordersChanged l K a d hc6) ⟨Nat.le_of_ble_eq_true rfl, Nat.le_of_ble_eq_true rfl⟩ rfl rfl (pC_0 K a d _) rfl hl.1 rfl (Nat.le_of_ble_eq_true rfl) dX11_programChanged_13 ⟨Nat.le_of_ble_eq_true rfl, Nat.le_of_ble_eq_true rfl⟩ (fun _ H locs hW => ?_)
  obtain rfl := Option.some.inj h
  exact rt_v hF hr hk (fun _ => 0) hW dX11_programChanged_16
set_option maxRecDepth 100000 in
set_option maxHeartbeats 1000000 in
theorem c_X11_makeChoice (l : Launch) (K : Kx) (a d : Nat → Nat) {M M0 : Mem} {x1 : Int32} {x2 : Int32}  (h : f_X11_makeChoice M x1 x2 = some M0) : CMv l yX11_makeChoice cX11_makeChoice 3 ({ frames := 3, cells := 0, slots := 0, locals := 75 } : Room) K [.ref (a 0), .int x1, .int x2] (wC K a d M) (fun _ => wC K a d M0) := by
  refine cs_v (by decide +kernel) (Nat.le_of_ble_eq_true rfl) ?_
  intro p e s m args below meth c A ls hF hr hk hnm hW hl
  have hx := hF.1
  have hb := hF.2.1
  have hl : lv_has ls 3 [(0, .ref (a 0)), (1, .int x1), (2, .int x2)] := hl
  obtain ⟨H, hH⟩ : ∃ z, z = s.heap := ⟨_, rfl⟩
  rw [← hH] at hW ⊢
  unfold f_X11_makeChoice at h
  refine lv_iload_n hx hb dX11_makeChoice_0 rfl (lv_at hl 2 rfl) ?_
  refine lv_if_gt (tgt := 5) hx hb dX11_makeChoice_1 (by decide) (fun q1 => ?_) (fun q1 => ?_)
  · have h := ifp q1 h
    refine lv_iload_n hx hb dX11_makeChoice_5 rfl (lv_at hl 2 rfl) ?_
    refine lv_aload_n hx hb dX11_makeChoice_6 rfl (lv_at hl 0 rfl) ?_
    refine lv_iload_n hx hb dX11_makeChoice_7 rfl (lv_at hl 1 rfl) ?_
    obtain ⟨r2, hc4, h⟩ := bq_some h
    refine cV_i (ci := 11) (q0 := 0) (rest := [.int x2]) hF hW mw_X11_391 (c_X11_choicesOf l K a d hc4) ⟨Nat.le_of_ble_eq_true rfl, Nat.le_of_ble_eq_true rfl⟩ rfl rfl (pC_0 K a d _) rfl hl.1 rfl (Nat.le_of_ble_eq_true rfl) dX11_makeChoice_8 ⟨Nat.le_of_ble_eq_true rfl, Nat.le_of_ble_eq_true rfl⟩ (fun _ H locs hW => ?_)
    refine lv_iconst (v := 1) hx hb dX11_makeChoice_11 (by decide) ?_
    refine lv_isub hx hb dX11_makeChoice_12 ?_
    refine lv_icmp_ne (tgt := 27) hx hb dX11_makeChoice_13 (by decide) (fun q5 => ?_) (fun q5 => ?_)
    · have h := ifn q5 h
      refine lv_aload_n hx hb dX11_makeChoice_27 rfl (lv_at hl 0 rfl) ?_
      refine g_X11_45 hF hW dX11_makeChoice_28 ?_
      refine lv_iload_n hx hb dX11_makeChoice_31 rfl (lv_at hl 1 rfl) ?_
      refine lv_aload_n hx hb dX11_makeChoice_32 rfl (lv_at hl 0 rfl) ?_
      refine g_X11_19 hF hW dX11_makeChoice_33 ?_
      refine g_X11_166 hF hW dX11_makeChoice_36 ?_
      refine lv_iload_n hx hb dX11_makeChoice_39 rfl (lv_at hl 1 rfl) ?_
      obtain ⟨q6, h⟩ := ck_some h
      refine w_ild hF hW (pC_11 K a d _) q6 dX11_makeChoice_40 ?_
      refine lv_iload_n hx hb dX11_makeChoice_41 rfl (lv_at hl 2 rfl) ?_
      refine lv_iadd hx hb dX11_makeChoice_42 ?_
      obtain ⟨M8, hc9, h⟩ := bm_some h
      refine cV_v (ci := 3) (q0 := 26) (rest := []) hF hW mw_X11_298 (c_X3_swapRows l K a d hc9) ⟨Nat.le_of_ble_eq_true rfl, Nat.le_of_ble_eq_true rfl⟩ rfl rfl (pC_26 K a d _) rfl hl.1 rfl (Nat.le_of_ble_eq_true rfl) dX11_makeChoice_43 ⟨Nat.le_of_ble_eq_true rfl, Nat.le_of_ble_eq_true rfl⟩ (fun _ H locs hW => ?_)
      obtain rfl := Option.some.inj h
      exact rt_v hF hr hk (fun _ => 0) hW dX11_makeChoice_46
    · have h := ifp q5 h
      refine lv_aload_n hx hb dX11_makeChoice_16 rfl (lv_at hl 0 rfl) ?_
      refine g_X11_45 hF hW dX11_makeChoice_17 ?_
      refine lv_iload_n hx hb dX11_makeChoice_20 rfl (lv_at hl 1 rfl) ?_
      obtain ⟨M11, hc12, h⟩ := bm_some h
      refine cV_v (ci := 3) (q0 := 26) (rest := []) hF hW mw_X11_311 (c_X3_turnSigns l K a d hc12) ⟨Nat.le_of_ble_eq_true rfl, Nat.le_of_ble_eq_true rfl⟩ rfl rfl (pC_26 K a d _) rfl hl.1 rfl (Nat.le_of_ble_eq_true rfl) dX11_makeChoice_21 ⟨Nat.le_of_ble_eq_true rfl, Nat.le_of_ble_eq_true rfl⟩ (fun _ H locs hW => ?_)
      refine lv_goto (tgt := 46) hx hb dX11_makeChoice_24 (by decide) ?_
      obtain rfl := Option.some.inj h
      exact rt_v hF hr hk (fun _ => 0) hW dX11_makeChoice_46
  · have h := ifn q1 h
    obtain rfl := Option.some.inj h
    exact rt_v hF hr hk (fun _ => 0) hW dX11_makeChoice_4
set_option maxRecDepth 100000 in
set_option maxHeartbeats 1000000 in
theorem c_X1_gather (l : Launch) (K : Kx) (a d : Nat → Nat) {M M0 : Mem} {x1 : Int32}  (h : f_X1_gather M x1 = some M0) : CMv l yX1_gather cX1_gather 5 ({ frames := 3, cells := 0, slots := 0, locals := 79 } : Room) K [.ref (a 43), .int x1] (wC K a d M) (fun _ => wC K a d M0) := by
  refine cs_v (by decide +kernel) (Nat.le_of_ble_eq_true rfl) ?_
  intro p e s m args below meth c A ls hF hr hk hnm hW hl
  have hx := hF.1
  have hb := hF.2.1
  have hl : lv_has ls 5 [(0, .ref (a 43)), (1, .int x1)] := hl
  obtain ⟨H, hH⟩ : ∃ z, z = s.heap := ⟨_, rfl⟩
  rw [← hH] at hW ⊢
  have J62 : ∀ (x1 : Int32) (x2 : Int32) (M : Mem) (H : Heap) (locs : List Loc) (ls : Array Slot), f_X1_gather_62 x1 x2 M = some M0 → Wd K A s (wC K a d M) H locs → lv_has ls 5 [(0, .ref (a 43)), (1, .int x1), (2, .int x2)] → W p l e ({ frames := 3, cells := 0, slots := 0, locals := 79 } : Room) s m args below meth c H locs 0 0 (EndV K A (fun _ => wC K a d M0) below args s ({ frames := 3, cells := 0, slots := 0, locals := 79 } : Room)) (F0 m 62 ls []) := by
    intro x1 x2 M H locs ls h hW hl
    unfold f_X1_gather_62 at h
    refine lv_aload_n hx hb dX1_gather_62 rfl (lv_at hl 0 rfl) ?_
    refine lv_iload_n hx hb dX1_gather_63 rfl (lv_at hl 2 rfl) ?_
    refine lv_iload_n hx hb dX1_gather_64 rfl (lv_at hl 1 rfl) ?_
    obtain ⟨M12, hc13, h⟩ := bm_some h
    refine cV_v (ci := 1) (q0 := 43) (rest := []) hF hW mw_X1_113 (c_X1_meetReaders l K a d hc13) ⟨Nat.le_of_ble_eq_true rfl, Nat.le_of_ble_eq_true rfl⟩ rfl rfl (pC_43 K a d _) rfl hl.1 rfl (Nat.le_of_ble_eq_true rfl) dX1_gather_65 ⟨Nat.le_of_ble_eq_true rfl, Nat.le_of_ble_eq_true rfl⟩ (fun _ H locs hW => ?_)
    refine lv_aload_n hx hb dX1_gather_68 rfl (lv_at hl 0 rfl) ?_
    refine lv_iload_n hx hb dX1_gather_69 rfl (lv_at hl 2 rfl) ?_
    refine lv_iload_n hx hb dX1_gather_70 rfl (lv_at hl 1 rfl) ?_
    refine lv_iconst (v := 2) hx hb dX1_gather_71 (by decide) ?_
    obtain ⟨M15, hc16, h⟩ := bm_some h
    refine cV_v (ci := 1) (q0 := 43) (rest := []) hF hW mw_X1_109 (c_X1_meetWriters l K a d hc16) ⟨Nat.le_of_ble_eq_true rfl, Nat.le_of_ble_eq_true rfl⟩ rfl rfl (pC_43 K a d _) rfl hl.1 rfl (Nat.le_of_ble_eq_true rfl) dX1_gather_72 ⟨Nat.le_of_ble_eq_true rfl, Nat.le_of_ble_eq_true rfl⟩ (fun _ H locs hW => ?_)
    obtain rfl := Option.some.inj h
    exact rt_v hF hr hk (fun _ => 0) hW dX1_gather_75
  unfold f_X1_gather at h
  refine lv_aload_n hx hb dX1_gather_0 rfl (lv_at hl 0 rfl) ?_
  refine g_X1_58 hF hW dX1_gather_1 ?_
  refine g_X1_106 hF hW dX1_gather_4 ?_
  refine lv_iload_n hx hb dX1_gather_7 rfl (lv_at hl 1 rfl) ?_
  refine lv_iconst (v := 3) hx hb dX1_gather_8 (by decide) ?_
  refine lv_imul hx hb dX1_gather_9 ?_
  obtain ⟨q1, h⟩ := ck_some h
  refine w_ild hF hW (pC_41 K a d _) q1 dX1_gather_10 ?_
  refine lv_istore_n (lv' := [(2, .int (M.1 41 (x1 * 3).toNatClampNeg)), (0, .ref (a 43)), (1, .int x1)]) hx hb dX1_gather_11 rfl hl (by decide) rfl (fun ls hl => ?_)
  refine lv_aload_n hx hb dX1_gather_12 rfl (lv_at hl 1 rfl) ?_
  refine g_X1_58 hF hW dX1_gather_13 ?_
  refine g_X1_106 hF hW dX1_gather_16 ?_
  refine lv_iload_n hx hb dX1_gather_19 rfl (lv_at hl 2 rfl) ?_
  refine lv_iconst (v := 3) hx hb dX1_gather_20 (by decide) ?_
  refine lv_imul hx hb dX1_gather_21 ?_
  refine lv_iconst (v := 1) hx hb dX1_gather_22 (by decide) ?_
  refine lv_iadd hx hb dX1_gather_23 ?_
  obtain ⟨q2, h⟩ := ck_some h
  refine w_ild hF hW (pC_41 K a d _) q2 dX1_gather_24 ?_
  refine lv_istore_n (lv' := [(3, .int (M.1 41 ((x1 * 3) + 1).toNatClampNeg)), (2, .int (M.1 41 (x1 * 3).toNatClampNeg)), (0, .ref (a 43)), (1, .int x1)]) hx hb dX1_gather_25 rfl hl (by decide) rfl (fun ls hl => ?_)
  refine lv_aload_n hx hb dX1_gather_26 rfl (lv_at hl 2 rfl) ?_
  refine g_X1_58 hF hW dX1_gather_27 ?_
  refine g_X1_106 hF hW dX1_gather_30 ?_
  refine lv_iload_n hx hb dX1_gather_33 rfl (lv_at hl 3 rfl) ?_
  refine lv_iconst (v := 3) hx hb dX1_gather_34 (by decide) ?_
  refine lv_imul hx hb dX1_gather_35 ?_
  refine lv_iconst (v := 2) hx hb dX1_gather_36 (by decide) ?_
  refine lv_iadd hx hb dX1_gather_37 ?_
  obtain ⟨q3, h⟩ := ck_some h
  refine w_ild hF hW (pC_41 K a d _) q3 dX1_gather_38 ?_
  refine lv_istore (lv' := [(4, .int (M.1 41 ((x1 * 3) + 2).toNatClampNeg)), (3, .int (M.1 41 ((x1 * 3) + 1).toNatClampNeg)), (2, .int (M.1 41 (x1 * 3).toNatClampNeg)), (0, .ref (a 43)), (1, .int x1)]) hx hb dX1_gather_39 hl (by decide) rfl (fun ls hl => ?_)
  refine lv_aload_n hx hb dX1_gather_41 rfl (lv_at hl 3 rfl) ?_
  refine lv_iload_n hx hb dX1_gather_42 rfl (lv_at hl 1 rfl) ?_
  refine lv_iload_n hx hb dX1_gather_43 rfl (lv_at hl 4 rfl) ?_
  refine lv_iconst (v := 0) hx hb dX1_gather_44 (by decide) ?_
  obtain ⟨M5, hc6, h⟩ := bm_some h
  refine cV_v (ci := 1) (q0 := 43) (rest := []) hF hW mw_X1_109 (c_X1_meetWriters l K a d hc6) ⟨Nat.le_of_ble_eq_true rfl, Nat.le_of_ble_eq_true rfl⟩ rfl rfl (pC_43 K a d _) rfl hl.1 rfl (Nat.le_of_ble_eq_true rfl) dX1_gather_45 ⟨Nat.le_of_ble_eq_true rfl, Nat.le_of_ble_eq_true rfl⟩ (fun _ H locs hW => ?_)
  refine lv_iload hx hb dX1_gather_48 (lv_at hl 0 rfl) ?_
  refine lv_iload_n hx hb dX1_gather_50 rfl (lv_at hl 1 rfl) ?_
  refine lv_icmp_eq (tgt := 62) hx hb dX1_gather_51 (by decide) (fun q7 => ?_) (fun q7 => ?_)
  · have h := ifp q7 h
    exact J62 x1 (M.1 41 (x1 * 3).toNatClampNeg) _ _ _ _ h hW (lv_sub hl [3, 4, 2] rfl)
  · have h := ifn q7 h
    refine lv_aload_n hx hb dX1_gather_54 rfl (lv_at hl 3 rfl) ?_
    refine lv_iload hx hb dX1_gather_55 (lv_at hl 0 rfl) ?_
    refine lv_iload_n hx hb dX1_gather_57 rfl (lv_at hl 4 rfl) ?_
    refine lv_iconst (v := 0) hx hb dX1_gather_58 (by decide) ?_
    obtain ⟨M9, hc10, h⟩ := bm_some h
    refine cV_v (ci := 1) (q0 := 43) (rest := []) hF hW mw_X1_109 (c_X1_meetWriters l K a d hc10) ⟨Nat.le_of_ble_eq_true rfl, Nat.le_of_ble_eq_true rfl⟩ rfl rfl (pC_43 K a d _) rfl hl.1 rfl (Nat.le_of_ble_eq_true rfl) dX1_gather_59 ⟨Nat.le_of_ble_eq_true rfl, Nat.le_of_ble_eq_true rfl⟩ (fun _ H locs hW => ?_)
    exact J62 x1 (M.1 41 (x1 * 3).toNatClampNeg) _ _ _ _ h hW (lv_sub hl [3, 4, 2] rfl)
set_option maxRecDepth 100000 in
set_option maxHeartbeats 1000000 in
theorem c_X3_begin (l : Launch) (K : Kx) (a d : Nat → Nat) {M M0 : Mem}   (h : f_X3_begin M = some M0) : CMv l yX3_begin cX3_begin 4 ({ frames := 4, cells := 0, slots := 0, locals := 109 } : Room) K [.ref (a 26)] (wC K a d M) (fun _ => wC K a d M0) := by
  refine cs_v (by decide +kernel) (Nat.le_of_ble_eq_true rfl) ?_
  intro p e s m args below meth c A ls hF hr hk hnm hW hl
  have hx := hF.1
  have hb := hF.2.1
  have hl : lv_has ls 4 [(0, .ref (a 26))] := hl
  obtain ⟨H, hH⟩ : ∃ z, z = s.heap := ⟨_, rfl⟩
  rw [← hH] at hW ⊢
  have J7 : ∀ (n7 : Nat) (x1 : Int32) (M : Mem) (H : Heap) (locs : List Loc) (ls : Array Slot), f_X3_begin_7 n7 x1 M = some M0 → Wd K A s (wC K a d M) H locs → lv_has ls 4 [(0, .ref (a 26)), (1, .int x1)] → W p l e ({ frames := 4, cells := 0, slots := 0, locals := 109 } : Room) s m args below meth c H locs 0 0 (EndV K A (fun _ => wC K a d M0) below args s ({ frames := 4, cells := 0, slots := 0, locals := 109 } : Room)) (F0 m 7 ls []) := by
    intro n7
    induction n7 with
    | zero => intro x1 M H locs ls h; exact absurd h (by simp [f_X3_begin_7])
    | succ n7 ih7 =>
      have J48 : ∀ (n48 : Nat) (x1 : Int32) (x2 : Int32) (x3 : Int32) (M : Mem) (H : Heap) (locs : List Loc) (ls : Array Slot), f_X3_begin_48 (f_X3_begin_7 n7) n48 x1 x2 x3 M = some M0 → Wd K A s (wC K a d M) H locs → lv_has ls 4 [(0, .ref (a 26)), (1, .int x1), (2, .int x2), (3, .int x3)] → W p l e ({ frames := 4, cells := 0, slots := 0, locals := 109 } : Room) s m args below meth c H locs 0 0 (EndV K A (fun _ => wC K a d M0) below args s ({ frames := 4, cells := 0, slots := 0, locals := 109 } : Room)) (F0 m 48 ls []) := by
        intro n48
        induction n48 with
        | zero => intro x1 x2 x3 M H locs ls h; exact absurd h (by simp [f_X3_begin_48])
        | succ n48 ih48 =>
          intro x1 x2 x3 M H locs ls h hW hl
          rw [f_X3_begin_48] at h
          refine lv_iload_n hx hb dX3_begin_48 rfl (lv_at hl 3 rfl) ?_
          refine lv_iload_n hx hb dX3_begin_49 rfl (lv_at hl 2 rfl) ?_
          refine lv_icmp_ge (tgt := 85) hx hb dX3_begin_50 (by decide) (fun q5 => ?_) (fun q5 => ?_)
          · have h := ifp q5 h
            refine lv_aload_n hx hb dX3_begin_85 rfl (lv_at hl 0 rfl) ?_
            refine g_X3_12 hF hW dX3_begin_86 ?_
            refine lv_iload_n hx hb dX3_begin_89 rfl (lv_at hl 1 rfl) ?_
            refine lv_aload_n hx hb dX3_begin_90 rfl (lv_at hl 0 rfl) ?_
            refine g_X3_32 hF hW dX3_begin_91 ?_
            refine lv_iload_n hx hb dX3_begin_94 rfl (lv_at hl 1 rfl) ?_
            refine lv_iload_n hx hb dX3_begin_95 rfl (lv_at hl 2 rfl) ?_
            obtain ⟨r6, hc8, h⟩ := bq_some h
            refine cV_i (ci := 2) (q0 := 5) (rest := [.int x1, .ref (a 27)]) hF hW mw_X3_51 (c_X2_placeOf l K a d hc8) ⟨Nat.le_of_ble_eq_true rfl, Nat.le_of_ble_eq_true rfl⟩ rfl rfl (pC_5 K a d _) rfl hl.1 rfl (Nat.le_of_ble_eq_true rfl) dX3_begin_96 ⟨Nat.le_of_ble_eq_true rfl, Nat.le_of_ble_eq_true rfl⟩ (fun _ H locs hW => ?_)
            obtain ⟨M10, hc11, h⟩ := bm_some h
            refine cV_v (ci := 7) (q0 := 27) (rest := []) hF hW mw_X3_55 (c_X7_addPlace l K a d hc11) ⟨Nat.le_of_ble_eq_true rfl, Nat.le_of_ble_eq_true rfl⟩ rfl rfl (pC_27 K a d _) rfl hl.1 rfl (Nat.le_of_ble_eq_true rfl) dX3_begin_99 ⟨Nat.le_of_ble_eq_true rfl, Nat.le_of_ble_eq_true rfl⟩ (fun _ H locs hW => ?_)
            refine lv_iinc (v := (x1 + 1)) (lv' := [(1, .int (x1 + 1)), (0, .ref (a 26)), (2, .int x2), (3, .int x3)]) hx hb dX3_begin_102 hl (k := 1) rfl rfl (by decide) rfl (fun ls hl => ?_)
            refine lv_goto (tgt := 7) hx hb dX3_begin_105 (by decide) ?_
            exact ih7 (x1 + 1) _ _ _ _ h hW (lv_sub hl [1, 0] rfl)
          · have h := ifn q5 h
            refine lv_aload_n hx hb dX3_begin_53 rfl (lv_at hl 0 rfl) ?_
            refine g_X3_12 hF hW dX3_begin_54 ?_
            refine lv_iload_n hx hb dX3_begin_57 rfl (lv_at hl 1 rfl) ?_
            refine lv_aload_n hx hb dX3_begin_58 rfl (lv_at hl 0 rfl) ?_
            refine g_X3_32 hF hW dX3_begin_59 ?_
            refine lv_iload_n hx hb dX3_begin_62 rfl (lv_at hl 1 rfl) ?_
            refine lv_iload_n hx hb dX3_begin_63 rfl (lv_at hl 3 rfl) ?_
            obtain ⟨r12, hc14, h⟩ := bq_some h
            refine cV_i (ci := 2) (q0 := 5) (rest := [.int x1, .ref (a 27)]) hF hW mw_X3_51 (c_X2_placeOf l K a d hc14) ⟨Nat.le_of_ble_eq_true rfl, Nat.le_of_ble_eq_true rfl⟩ rfl rfl (pC_5 K a d _) rfl hl.1 rfl (Nat.le_of_ble_eq_true rfl) dX3_begin_64 ⟨Nat.le_of_ble_eq_true rfl, Nat.le_of_ble_eq_true rfl⟩ (fun _ H locs hW => ?_)
            obtain ⟨M16, hc17, h⟩ := bm_some h
            refine cV_v (ci := 7) (q0 := 27) (rest := []) hF hW mw_X3_55 (c_X7_addPlace l K a d hc17) ⟨Nat.le_of_ble_eq_true rfl, Nat.le_of_ble_eq_true rfl⟩ rfl rfl (pC_27 K a d _) rfl hl.1 rfl (Nat.le_of_ble_eq_true rfl) dX3_begin_67 ⟨Nat.le_of_ble_eq_true rfl, Nat.le_of_ble_eq_true rfl⟩ (fun _ H locs hW => ?_)
            refine lv_aload_n hx hb dX3_begin_70 rfl (lv_at hl 0 rfl) ?_
            refine g_X3_12 hF hW dX3_begin_71 ?_
            refine lv_iload_n hx hb dX3_begin_74 rfl (lv_at hl 1 rfl) ?_
            refine lv_iload_n hx hb dX3_begin_75 rfl (lv_at hl 3 rfl) ?_
            obtain ⟨M19, hc20, h⟩ := bm_some h
            refine cV_v (ci := 7) (q0 := 27) (rest := []) hF hW mw_X3_59 (c_X7_addLetter l K a d hc20) ⟨Nat.le_of_ble_eq_true rfl, Nat.le_of_ble_eq_true rfl⟩ rfl rfl (pC_27 K a d _) rfl hl.1 rfl (Nat.le_of_ble_eq_true rfl) dX3_begin_76 ⟨Nat.le_of_ble_eq_true rfl, Nat.le_of_ble_eq_true rfl⟩ (fun _ H locs hW => ?_)
            refine lv_iinc (v := (x3 + 1)) (lv' := [(3, .int (x3 + 1)), (0, .ref (a 26)), (1, .int x1), (2, .int x2)]) hx hb dX3_begin_79 hl (k := 3) rfl rfl (by decide) rfl (fun ls hl => ?_)
            refine lv_goto (tgt := 48) hx hb dX3_begin_82 (by decide) ?_
            exact ih48 x1 x2 (x3 + 1) _ _ _ _ h hW (lv_sub hl [1, 2, 3, 0] rfl)
      intro x1 M H locs ls h hW hl
      rw [f_X3_begin_7] at h
      refine lv_iload_n hx hb dX3_begin_7 rfl (lv_at hl 1 rfl) ?_
      refine lv_aload_n hx hb dX3_begin_8 rfl (lv_at hl 0 rfl) ?_
      refine g_X3_32 hF hW dX3_begin_9 ?_
      refine g_X3_36 hF hW dX3_begin_12 ?_
      refine lv_icmp_ge (tgt := 108) hx hb dX3_begin_15 (by decide) (fun q1 => ?_) (fun q1 => ?_)
      · have h := ifp q1 h
        obtain rfl := Option.some.inj h
        exact rt_v hF hr hk (fun _ => 0) hW dX3_begin_108
      · have h := ifn q1 h
        refine lv_aload_n hx hb dX3_begin_18 rfl (lv_at hl 0 rfl) ?_
        refine g_X3_12 hF hW dX3_begin_19 ?_
        refine g_X3_41_now hF hW dX3_begin_22 ?_
        refine lv_iload_n hx hb dX3_begin_25 rfl (lv_at hl 1 rfl) ?_
        refine lv_iconst (v := 0) hx hb dX3_begin_26 (by decide) ?_
        obtain ⟨q2, h⟩ := ck_some h
        refine w_ist hF hW (pC_29 K a d _) q2 (uC_29 K a d _ _ _) dX3_begin_27 (fun H locs hW => ?_)
        refine lv_aload_n hx hb dX3_begin_28 rfl (lv_at hl 0 rfl) ?_
        refine g_X3_32 hF hW dX3_begin_29 ?_
        refine g_X3_45 hF hW dX3_begin_32 ?_
        refine lv_aload_n hx hb dX3_begin_35 rfl (lv_at hl 0 rfl) ?_
        refine g_X3_32 hF hW dX3_begin_36 ?_
        refine g_X3_48 hF hW dX3_begin_39 ?_
        refine lv_iload_n hx hb dX3_begin_42 rfl (lv_at hl 1 rfl) ?_
        obtain ⟨q3, h⟩ := ck_some h
        refine w_ild hF hW (pC_16 K a d _) q3 dX3_begin_43 ?_
        obtain ⟨q4, h⟩ := ck_some h
        refine w_ild hF hW (pC_11 K a d _) q4 dX3_begin_44 ?_
        refine lv_istore_n (lv' := [(2, .int ((sI M 29 x1.toNatClampNeg 0).1 11 ((sI M 29 x1.toNatClampNeg 0).1 16 x1.toNatClampNeg).toNatClampNeg)), (0, .ref (a 26)), (1, .int x1)]) hx hb dX3_begin_45 rfl hl (by decide) rfl (fun ls hl => ?_)
        refine lv_iconst (v := 0) hx hb dX3_begin_46 (by decide) ?_
        refine lv_istore_n (lv' := [(3, .int 0), (2, .int ((sI M 29 x1.toNatClampNeg 0).1 11 ((sI M 29 x1.toNatClampNeg 0).1 16 x1.toNatClampNeg).toNatClampNeg)), (0, .ref (a 26)), (1, .int x1)]) hx hb dX3_begin_47 rfl hl (by decide) rfl (fun ls hl => ?_)
        exact J48 100000 x1 ((sI M 29 x1.toNatClampNeg 0).1 11 ((sI M 29 x1.toNatClampNeg 0).1 16 x1.toNatClampNeg).toNatClampNeg) 0 _ _ _ _ h hW (lv_sub hl [2, 3, 1, 0] rfl)
  unfold f_X3_begin at h
  refine lv_aload_n hx hb dX3_begin_0 rfl (lv_at hl 0 rfl) ?_
  refine lv_iconst (v := 0) hx hb dX3_begin_1 (by decide) ?_
  refine s_X3_29 (x := 0) hF hW dX3_begin_2 (fun H locs hW => ?_)
  refine lv_iconst (v := 0) hx hb dX3_begin_5 (by decide) ?_
  refine lv_istore_n (lv' := [(1, .int 0), (0, .ref (a 26))]) hx hb dX3_begin_6 rfl hl (by decide) rfl (fun ls hl => ?_)
  exact J7 100000 0 _ _ _ _ h hW (lv_sub hl [1, 0] rfl)
set_option maxRecDepth 100000 in
set_option maxHeartbeats 1000000 in
theorem c_X3_tileRows (l : Launch) (K : Kx) (a d : Nat → Nat) {M M0 : Mem} {x1 : Int32} {x2 : Int32} {x3 : Int32}  (h : f_X3_tileRows M x1 x2 x3 = some M0) : CMv l yX3_tileRows cX3_tileRows 8 ({ frames := 3, cells := 0, slots := 0, locals := 85 } : Room) K [.ref (a 26), .int x1, .int x2, .int x3] (wC K a d M) (fun _ => wC K a d M0) := by
  refine cs_v (by decide +kernel) (Nat.le_of_ble_eq_true rfl) ?_
  intro p e s m args below meth c A ls hF hr hk hnm hW hl
  have hx := hF.1
  have hb := hF.2.1
  have hl : lv_has ls 8 [(0, .ref (a 26)), (1, .int x1), (2, .int x2), (3, .int x3)] := hl
  obtain ⟨H, hH⟩ : ∃ z, z = s.heap := ⟨_, rfl⟩
  rw [← hH] at hW ⊢
  have J14 : ∀ (n14 : Nat) (x1 : Int32) (x2 : Int32) (x3 : Int32) (x4 : Int32) (x5 : Int32) (M : Mem) (H : Heap) (locs : List Loc) (ls : Array Slot), f_X3_tileRows_14 n14 x1 x2 x3 x4 x5 M = some M0 → Wd K A s (wC K a d M) H locs → lv_has ls 8 [(0, .ref (a 26)), (1, .int x1), (2, .int x2), (3, .int x3), (4, .int x4), (5, .int x5)] → W p l e ({ frames := 3, cells := 0, slots := 0, locals := 85 } : Room) s m args below meth c H locs 0 0 (EndV K A (fun _ => wC K a d M0) below args s ({ frames := 3, cells := 0, slots := 0, locals := 85 } : Room)) (F0 m 14 ls []) := by
    intro n14
    induction n14 with
    | zero => intro x1 x2 x3 x4 x5 M H locs ls h; exact absurd h (by simp [f_X3_tileRows_14])
    | succ n14 ih14 =>
      have J81 : ∀ (n81 : Nat) (x1 : Int32) (x2 : Int32) (x3 : Int32) (x4 : Int32) (x5 : Int32) (x6 : Int32) (x7 : Int32) (M : Mem) (H : Heap) (locs : List Loc) (ls : Array Slot), f_X3_tileRows_81 (f_X3_tileRows_14 n14) n81 x1 x2 x3 x4 x5 x6 x7 M = some M0 → Wd K A s (wC K a d M) H locs → lv_has ls 8 [(0, .ref (a 26)), (1, .int x1), (2, .int x2), (3, .int x3), (4, .int x4), (5, .int x5), (6, .int x6), (7, .int x7)] → W p l e ({ frames := 3, cells := 0, slots := 0, locals := 85 } : Room) s m args below meth c H locs 0 0 (EndV K A (fun _ => wC K a d M0) below args s ({ frames := 3, cells := 0, slots := 0, locals := 85 } : Room)) (F0 m 81 ls []) := by
        intro n81
        induction n81 with
        | zero => intro x1 x2 x3 x4 x5 x6 x7 M H locs ls h; exact absurd h (by simp [f_X3_tileRows_81])
        | succ n81 ih81 =>
          have J117 : ∀ (n117 : Nat) (x1 : Int32) (x2 : Int32) (x3 : Int32) (x4 : Int32) (x5 : Int32) (x6 : Int32) (x7 : Int32) (M : Mem) (H : Heap) (locs : List Loc) (ls : Array Slot), f_X3_tileRows_117 (f_X3_tileRows_14 n14) n117 x1 x2 x3 x4 x5 x6 x7 M = some M0 → Wd K A s (wC K a d M) H locs → lv_has ls 8 [(0, .ref (a 26)), (1, .int x1), (2, .int x2), (3, .int x3), (4, .int x4), (5, .int x5), (6, .int x6), (7, .int x7)] → W p l e ({ frames := 3, cells := 0, slots := 0, locals := 85 } : Room) s m args below meth c H locs 0 0 (EndV K A (fun _ => wC K a d M0) below args s ({ frames := 3, cells := 0, slots := 0, locals := 85 } : Room)) (F0 m 117 ls []) := by
            intro n117
            induction n117 with
            | zero => intro x1 x2 x3 x4 x5 x6 x7 M H locs ls h; exact absurd h (by simp [f_X3_tileRows_117])
            | succ n117 ih117 =>
              intro x1 x2 x3 x4 x5 x6 x7 M H locs ls h hW hl
              rw [f_X3_tileRows_117] at h
              refine lv_iload hx hb dX3_tileRows_117 (lv_at hl 7 rfl) ?_
              refine lv_iload_n hx hb dX3_tileRows_119 rfl (lv_at hl 2 rfl) ?_
              refine lv_icmp_ge (tgt := 149) hx hb dX3_tileRows_120 (by decide) (fun q16 => ?_) (fun q16 => ?_)
              · have h := ifp q16 h
                refine lv_iinc (v := (x5 + 1)) (lv' := [(5, .int (x5 + 1)), (0, .ref (a 26)), (1, .int x1), (2, .int x2), (3, .int x3), (4, .int x4), (6, .int x6), (7, .int x7)]) hx hb dX3_tileRows_149 hl (k := 5) rfl rfl (by decide) rfl (fun ls hl => ?_)
                refine lv_goto (tgt := 14) hx hb dX3_tileRows_152 (by decide) ?_
                exact ih14 x1 x2 x3 x4 (x5 + 1) _ _ _ _ h hW (lv_sub hl [1, 2, 3, 4, 5, 0] rfl)
              · have h := ifn q16 h
                refine lv_aload_n hx hb dX3_tileRows_123 rfl (lv_at hl 0 rfl) ?_
                refine lv_iload hx hb dX3_tileRows_124 (lv_at hl 5 rfl) ?_
                refine lv_iload hx hb dX3_tileRows_126 (lv_at hl 4 rfl) ?_
                refine lv_iload hx hb dX3_tileRows_128 (lv_at hl 7 rfl) ?_
                refine lv_iadd hx hb dX3_tileRows_130 ?_
                refine lv_iload hx hb dX3_tileRows_131 (lv_at hl 6 rfl) ?_
                refine lv_iload hx hb dX3_tileRows_133 (lv_at hl 7 rfl) ?_
                refine lv_bipush (v := 7) hx hb dX3_tileRows_135 (by decide) ?_
                refine lv_imul hx hb dX3_tileRows_137 ?_
                refine lv_iadd hx hb dX3_tileRows_138 ?_
                refine lv_iload_n hx hb dX3_tileRows_139 rfl (lv_at hl 3 rfl) ?_
                obtain ⟨M18, hc19, h⟩ := bm_some h
                refine cV_v (ci := 3) (q0 := 26) (rest := []) hF hW mw_X3_91 (c_X3_widen l K a d hc19) ⟨Nat.le_of_ble_eq_true rfl, Nat.le_of_ble_eq_true rfl⟩ rfl rfl (pC_26 K a d _) rfl hl.1 rfl (Nat.le_of_ble_eq_true rfl) dX3_tileRows_140 ⟨Nat.le_of_ble_eq_true rfl, Nat.le_of_ble_eq_true rfl⟩ (fun _ H locs hW => ?_)
                refine lv_iinc (v := (x7 + 1)) (lv' := [(7, .int (x7 + 1)), (0, .ref (a 26)), (1, .int x1), (2, .int x2), (3, .int x3), (4, .int x4), (5, .int x5), (6, .int x6)]) hx hb dX3_tileRows_143 hl (k := 7) rfl rfl (by decide) rfl (fun ls hl => ?_)
                refine lv_goto (tgt := 117) hx hb dX3_tileRows_146 (by decide) ?_
                exact ih117 x1 x2 x3 x4 x5 x6 (x7 + 1) _ _ _ _ h hW (lv_sub hl [1, 2, 3, 4, 5, 6, 7, 0] rfl)
          intro x1 x2 x3 x4 x5 x6 x7 M H locs ls h hW hl
          rw [f_X3_tileRows_81] at h
          refine lv_iload hx hb dX3_tileRows_81 (lv_at hl 7 rfl) ?_
          refine lv_iload_n hx hb dX3_tileRows_83 rfl (lv_at hl 2 rfl) ?_
          refine lv_icmp_ge (tgt := 114) hx hb dX3_tileRows_84 (by decide) (fun q14 => ?_) (fun q14 => ?_)
          · have h := ifp q14 h
            refine lv_iconst (v := 0) hx hb dX3_tileRows_114 (by decide) ?_
            refine lv_istore (lv' := [(7, .int 0), (0, .ref (a 26)), (1, .int x1), (2, .int x2), (3, .int x3), (4, .int x4), (5, .int x5), (6, .int x6)]) hx hb dX3_tileRows_115 hl (by decide) rfl (fun ls hl => ?_)
            exact J117 100000 x1 x2 x3 x4 x5 x6 0 _ _ _ _ h hW (lv_sub hl [1, 2, 3, 4, 5, 6, 7, 0] rfl)
          · have h := ifn q14 h
            refine lv_aload_n hx hb dX3_tileRows_87 rfl (lv_at hl 0 rfl) ?_
            refine g_X3_12 hF hW dX3_tileRows_88 ?_
            refine g_X3_80_now hF hW dX3_tileRows_91 ?_
            refine lv_iload hx hb dX3_tileRows_94 (lv_at hl 6 rfl) ?_
            refine lv_iload hx hb dX3_tileRows_96 (lv_at hl 7 rfl) ?_
            refine lv_bipush (v := 7) hx hb dX3_tileRows_98 (by decide) ?_
            refine lv_imul hx hb dX3_tileRows_100 ?_
            refine lv_iadd hx hb dX3_tileRows_101 ?_
            refine lv_bipush (v := 6) hx hb dX3_tileRows_102 (by decide) ?_
            refine lv_iadd hx hb dX3_tileRows_104 ?_
            refine lv_bipush (v := (-9)) hx hb dX3_tileRows_105 (by decide) ?_
            obtain ⟨q15, h⟩ := ck_some h
            refine w_ist hF hW (pC_28 K a d _) q15 (uC_28 K a d _ _ _) dX3_tileRows_107 (fun H locs hW => ?_)
            refine lv_iinc (v := (x7 + 1)) (lv' := [(7, .int (x7 + 1)), (0, .ref (a 26)), (1, .int x1), (2, .int x2), (3, .int x3), (4, .int x4), (5, .int x5), (6, .int x6)]) hx hb dX3_tileRows_108 hl (k := 7) rfl rfl (by decide) rfl (fun ls hl => ?_)
            refine lv_goto (tgt := 81) hx hb dX3_tileRows_111 (by decide) ?_
            exact ih81 x1 x2 x3 x4 x5 x6 (x7 + 1) _ _ _ _ h hW (lv_sub hl [1, 2, 3, 4, 5, 6, 7, 0] rfl)
      intro x1 x2 x3 x4 x5 M H locs ls h hW hl
      rw [f_X3_tileRows_14] at h
      refine lv_iload hx hb dX3_tileRows_14 (lv_at hl 5 rfl) ?_
      refine lv_aload_n hx hb dX3_tileRows_16 rfl (lv_at hl 0 rfl) ?_
      refine g_X3_32 hF hW dX3_tileRows_17 ?_
      refine g_X3_36 hF hW dX3_tileRows_20 ?_
      refine lv_icmp_ge (tgt := 155) hx hb dX3_tileRows_23 (by decide) (fun q2 => ?_) (fun q2 => ?_)
      · have h := ifp q2 h
        obtain rfl := Option.some.inj h
        exact rt_v hF hr hk (fun _ => 0) hW dX3_tileRows_155
      · have h := ifn q2 h
        refine lv_aload_n hx hb dX3_tileRows_26 rfl (lv_at hl 0 rfl) ?_
        refine lv_iload hx hb dX3_tileRows_27 (lv_at hl 5 rfl) ?_
        refine lv_iload_n hx hb dX3_tileRows_29 rfl (lv_at hl 1 rfl) ?_
        refine lv_iload hx hb dX3_tileRows_30 (lv_at hl 4 rfl) ?_
        refine lv_iload_n hx hb dX3_tileRows_32 rfl (lv_at hl 2 rfl) ?_
        refine lv_iadd hx hb dX3_tileRows_33 ?_
        refine lv_iconst (v := 1) hx hb dX3_tileRows_34 (by decide) ?_
        refine lv_isub hx hb dX3_tileRows_35 ?_
        obtain ⟨r3, hc5, h⟩ := bq_some h
        refine cV_i (ci := 3) (q0 := 26) (rest := []) hF hW mw_X3_73 (c_X3_reaches l K a d hc5) ⟨Nat.le_of_ble_eq_true rfl, Nat.le_of_ble_eq_true rfl⟩ rfl rfl (pC_26 K a d _) rfl hl.1 rfl (Nat.le_of_ble_eq_true rfl) dX3_tileRows_36 ⟨Nat.le_of_ble_eq_true rfl, Nat.le_of_ble_eq_true rfl⟩ (fun _ H locs hW => ?_)
        refine lz_ne (tgt := 45) hx hb dX3_tileRows_39 (by decide) (fun q6 => ?_) (fun q6 => ?_)
        · have h := ifp q6 h
          refine lv_aload_n hx hb dX3_tileRows_45 rfl (lv_at hl 0 rfl) ?_
          refine g_X3_12 hF hW dX3_tileRows_46 ?_
          refine lv_iload hx hb dX3_tileRows_49 (lv_at hl 5 rfl) ?_
          refine lv_iload hx hb dX3_tileRows_51 (lv_at hl 4 rfl) ?_
          obtain ⟨r7, hc9, h⟩ := bq_some h
          refine cV_i (ci := 7) (q0 := 27) (rest := []) hF hW mw_X3_77 (c_X7_loopRow l K a d hc9) ⟨Nat.le_of_ble_eq_true rfl, Nat.le_of_ble_eq_true rfl⟩ rfl rfl (pC_27 K a d _) rfl hl.1 rfl (Nat.le_of_ble_eq_true rfl) dX3_tileRows_53 ⟨Nat.le_of_ble_eq_true rfl, Nat.le_of_ble_eq_true rfl⟩ (fun _ H locs hW => ?_)
          refine lv_istore (lv' := [(6, .int r7), (0, .ref (a 26)), (1, .int x1), (2, .int x2), (3, .int x3), (4, .int x4), (5, .int x5)]) hx hb dX3_tileRows_56 hl (by decide) rfl (fun ls hl => ?_)
          refine lv_iload hx hb dX3_tileRows_58 (lv_at hl 0 rfl) ?_
          refine lv_if_ge (tgt := 66) hx hb dX3_tileRows_60 (by decide) (fun q10 => ?_) (fun q10 => ?_)
          · have h := ifp q10 h
            refine lv_aload_n hx hb dX3_tileRows_66 rfl (lv_at hl 1 rfl) ?_
            refine g_X3_12 hF hW dX3_tileRows_67 ?_
            refine lv_iload hx hb dX3_tileRows_70 (lv_at hl 6 rfl) ?_
            refine lv_iload hx hb dX3_tileRows_72 (lv_at hl 0 rfl) ?_
            refine lv_iload_n hx hb dX3_tileRows_74 rfl (lv_at hl 3 rfl) ?_
            obtain ⟨M12, hc13, h⟩ := bm_some h
            refine cV_v (ci := 7) (q0 := 27) (rest := []) hF hW mw_X3_87 (c_X7_openRows l K a d hc13) ⟨Nat.le_of_ble_eq_true rfl, Nat.le_of_ble_eq_true rfl⟩ rfl rfl (pC_27 K a d _) rfl hl.1 rfl (Nat.le_of_ble_eq_true rfl) dX3_tileRows_75 ⟨Nat.le_of_ble_eq_true rfl, Nat.le_of_ble_eq_true rfl⟩ (fun _ H locs hW => ?_)
            refine lv_iconst (v := 0) hx hb dX3_tileRows_78 (by decide) ?_
            refine lv_istore (lv' := [(7, .int 0), (6, .int r7), (0, .ref (a 26)), (1, .int x1), (2, .int x2), (3, .int x3), (4, .int x4), (5, .int x5)]) hx hb dX3_tileRows_79 hl (by decide) rfl (fun ls hl => ?_)
            exact J81 100000 x1 x2 x3 x4 x5 r7 0 _ _ _ _ h hW (lv_sub hl [2, 3, 4, 5, 6, 7, 1, 0] rfl)
          · have h := ifn q10 h
            refine lv_goto (tgt := 149) hx hb dX3_tileRows_63 (by decide) ?_
            refine lv_iinc (v := (x5 + 1)) (lv' := [(5, .int (x5 + 1)), (6, .int r7), (0, .ref (a 26)), (1, .int x1), (2, .int x2), (3, .int x3), (4, .int x4)]) hx hb dX3_tileRows_149 hl (k := 6) rfl rfl (by decide) rfl (fun ls hl => ?_)
            refine lv_goto (tgt := 14) hx hb dX3_tileRows_152 (by decide) ?_
            exact ih14 x1 x2 x3 x4 (x5 + 1) _ _ _ _ h hW (lv_sub hl [2, 3, 4, 5, 6, 0] rfl)
        · have h := ifn q6 h
          refine lv_goto (tgt := 149) hx hb dX3_tileRows_42 (by decide) ?_
          refine lv_iinc (v := (x5 + 1)) (lv' := [(5, .int (x5 + 1)), (0, .ref (a 26)), (1, .int x1), (2, .int x2), (3, .int x3), (4, .int x4)]) hx hb dX3_tileRows_149 hl (k := 5) rfl rfl (by decide) rfl (fun ls hl => ?_)
          refine lv_goto (tgt := 14) hx hb dX3_tileRows_152 (by decide) ?_
          exact ih14 x1 x2 x3 x4 (x5 + 1) _ _ _ _ h hW (lv_sub hl [1, 2, 3, 4, 5, 0] rfl)
  unfold f_X3_tileRows at h
  refine lv_aload_n hx hb dX3_tileRows_0 rfl (lv_at hl 0 rfl) ?_
  refine g_X3_32 hF hW dX3_tileRows_1 ?_
  refine g_X3_45 hF hW dX3_tileRows_4 ?_
  refine lv_iload_n hx hb dX3_tileRows_7 rfl (lv_at hl 1 rfl) ?_
  obtain ⟨q1, h⟩ := ck_some h
  refine w_ild hF hW (pC_11 K a d _) q1 dX3_tileRows_8 ?_
  refine lv_istore (lv' := [(4, .int (M.1 11 x1.toNatClampNeg)), (0, .ref (a 26)), (1, .int x1), (2, .int x2), (3, .int x3)]) hx hb dX3_tileRows_9 hl (by decide) rfl (fun ls hl => ?_)
  refine lv_iconst (v := 0) hx hb dX3_tileRows_11 (by decide) ?_
  refine lv_istore (lv' := [(5, .int 0), (4, .int (M.1 11 x1.toNatClampNeg)), (0, .ref (a 26)), (1, .int x1), (2, .int x2), (3, .int x3)]) hx hb dX3_tileRows_12 hl (by decide) rfl (fun ls hl => ?_)
  exact J14 100000 x1 x2 x3 (M.1 11 x1.toNatClampNeg) 0 _ _ _ _ h hW (lv_sub hl [2, 3, 4, 5, 1, 0] rfl)
set_option maxRecDepth 100000 in
set_option maxHeartbeats 1000000 in
theorem c_X9_reckonTouch (l : Launch) (K : Kx) (a d : Nat → Nat) {M M0 : Mem} {x1 : Int32} {x2 : Int32}  (h : f_X9_reckonTouch M x1 x2 = some M0) : CMv l yX9_reckonTouch cX9_reckonTouch 5 ({ frames := 2, cells := 0, slots := 0, locals := 51 } : Room) K [.ref (a 38), .int x1, .int x2] (wC K a d M) (fun _ => wC K a d M0) := by
  refine cs_v (by decide +kernel) (Nat.le_of_ble_eq_true rfl) ?_
  intro p e s m args below meth c A ls hF hr hk hnm hW hl
  have hx := hF.1
  have hb := hF.2.1
  have hl : lv_has ls 5 [(0, .ref (a 38)), (1, .int x1), (2, .int x2)] := hl
  obtain ⟨H, hH⟩ : ∃ z, z = s.heap := ⟨_, rfl⟩
  rw [← hH] at hW ⊢
  unfold f_X9_reckonTouch at h
  refine lv_iload_n hx hb dX9_reckonTouch_0 rfl (lv_at hl 1 rfl) ?_
  refine lv_iconst (v := 3) hx hb dX9_reckonTouch_1 (by decide) ?_
  refine lv_imul hx hb dX9_reckonTouch_2 ?_
  refine lv_iload_n hx hb dX9_reckonTouch_3 rfl (lv_at hl 2 rfl) ?_
  refine lv_iadd hx hb dX9_reckonTouch_4 ?_
  refine lv_istore_n (lv' := [(3, .int ((x1 * 3) + x2)), (0, .ref (a 38)), (1, .int x1), (2, .int x2)]) hx hb dX9_reckonTouch_5 rfl hl (by decide) rfl (fun ls hl => ?_)
  refine lv_aload_n hx hb dX9_reckonTouch_6 rfl (lv_at hl 1 rfl) ?_
  refine g_X9_41 hF hW dX9_reckonTouch_7 ?_
  refine g_X9_65 hF hW dX9_reckonTouch_10 ?_
  refine lv_iload_n hx hb dX9_reckonTouch_13 rfl (lv_at hl 2 rfl) ?_
  obtain ⟨q1, h⟩ := ck_some h
  refine w_ild hF hW (pC_35 K a d _) q1 dX9_reckonTouch_14 ?_
  refine lv_iconst (v := 3) hx hb dX9_reckonTouch_15 (by decide) ?_
  refine lv_imul hx hb dX9_reckonTouch_16 ?_
  refine lv_iload_n hx hb dX9_reckonTouch_17 rfl (lv_at hl 3 rfl) ?_
  refine lv_iadd hx hb dX9_reckonTouch_18 ?_
  refine lv_istore (lv' := [(4, .int (((M.1 35 x1.toNatClampNeg) * 3) + x2)), (3, .int ((x1 * 3) + x2)), (0, .ref (a 38)), (1, .int x1), (2, .int x2)]) hx hb dX9_reckonTouch_19 hl (by decide) rfl (fun ls hl => ?_)
  refine lv_aload_n hx hb dX9_reckonTouch_21 rfl (lv_at hl 2 rfl) ?_
  refine g_X9_18 hF hW dX9_reckonTouch_22 ?_
  refine lv_iload_n hx hb dX9_reckonTouch_25 rfl (lv_at hl 1 rfl) ?_
  refine lv_bipush (v := (-9)) hx hb dX9_reckonTouch_26 (by decide) ?_
  obtain ⟨q2, h⟩ := ck_some h
  refine w_ist hF hW (pC_41 K a d _) q2 (uC_41 K a d _ _ _) dX9_reckonTouch_28 (fun H locs hW => ?_)
  refine lv_aload_n hx hb dX9_reckonTouch_29 rfl (lv_at hl 2 rfl) ?_
  refine g_X9_37 hF hW dX9_reckonTouch_30 ?_
  refine g_X9_60 hF hW dX9_reckonTouch_33 ?_
  refine lv_iload hx hb dX9_reckonTouch_36 (lv_at hl 0 rfl) ?_
  obtain ⟨q3, h⟩ := ck_some h
  refine w_ild hF hW (pC_18 K a d _) q3 dX9_reckonTouch_38 ?_
  refine lv_if_ge (tgt := 43) hx hb dX9_reckonTouch_39 (by decide) (fun q4 => ?_) (fun q4 => ?_)
  · have h := ifp q4 h
    refine lv_aload_n hx hb dX9_reckonTouch_43 rfl (lv_at hl 2 rfl) ?_
    refine g_X9_9 hF hW dX9_reckonTouch_44 ?_
    refine lv_iload_n hx hb dX9_reckonTouch_47 rfl (lv_at hl 1 rfl) ?_
    refine lv_aload_n hx hb dX9_reckonTouch_48 rfl (lv_at hl 2 rfl) ?_
    refine g_X9_33 hF hW dX9_reckonTouch_49 ?_
    refine lv_aload_n hx hb dX9_reckonTouch_52 rfl (lv_at hl 2 rfl) ?_
    refine g_X9_37 hF hW dX9_reckonTouch_53 ?_
    refine g_X9_68 hF hW dX9_reckonTouch_56 ?_
    refine lv_iload hx hb dX9_reckonTouch_59 (lv_at hl 0 rfl) ?_
    obtain ⟨q5, h⟩ := ck_some h
    refine w_ild hF hW (pC_19 K a d _) q5 dX9_reckonTouch_61 ?_
    refine lv_aload_n hx hb dX9_reckonTouch_62 rfl (lv_at hl 2 rfl) ?_
    refine g_X9_41 hF hW dX9_reckonTouch_63 ?_
    refine g_X9_71 hF hW dX9_reckonTouch_66 ?_
    refine lv_iload_n hx hb dX9_reckonTouch_69 rfl (lv_at hl 3 rfl) ?_
    refine lv_iconst (v := 4) hx hb dX9_reckonTouch_70 (by decide) ?_
    refine lv_imul hx hb dX9_reckonTouch_71 ?_
    obtain ⟨r6, hc8, h⟩ := bq_some h
    refine cV_l (ci := 8) (q0 := 1) (rest := [.int ((x1 * 3) + x2), .ref (a 39)]) hF hW mw_X9_74 (c_X8_reckon_l l K a d hc8) ⟨Nat.le_of_ble_eq_true rfl, Nat.le_of_ble_eq_true rfl⟩ rfl rfl (pC_1 K a d _) rfl hl.1 rfl (Nat.le_of_ble_eq_true rfl) dX9_reckonTouch_72 ⟨Nat.le_of_ble_eq_true rfl, Nat.le_of_ble_eq_true rfl⟩ (fun _ H locs hW => ?_)
    obtain ⟨q9, h⟩ := ck_some h
    refine w_lst hF hW (pC_39 K a d _) q9 (uC_39 K a d _ _ _) dX9_reckonTouch_75 (fun H locs hW => ?_)
    refine lv_aload_n hx hb dX9_reckonTouch_76 rfl (lv_at hl 2 rfl) ?_
    refine g_X9_15 hF hW dX9_reckonTouch_77 ?_
    refine lv_iload_n hx hb dX9_reckonTouch_80 rfl (lv_at hl 1 rfl) ?_
    refine lv_aload_n hx hb dX9_reckonTouch_81 rfl (lv_at hl 2 rfl) ?_
    refine g_X9_33 hF hW dX9_reckonTouch_82 ?_
    refine lv_aload_n hx hb dX9_reckonTouch_85 rfl (lv_at hl 2 rfl) ?_
    refine g_X9_37 hF hW dX9_reckonTouch_86 ?_
    refine g_X9_80 hF hW dX9_reckonTouch_89 ?_
    refine lv_iload hx hb dX9_reckonTouch_92 (lv_at hl 0 rfl) ?_
    obtain ⟨q10, h⟩ := ck_some h
    refine w_ild hF hW (pC_20 K a d _) q10 dX9_reckonTouch_94 ?_
    refine lv_aload_n hx hb dX9_reckonTouch_95 rfl (lv_at hl 2 rfl) ?_
    refine g_X9_41 hF hW dX9_reckonTouch_96 ?_
    refine g_X9_71 hF hW dX9_reckonTouch_99 ?_
    refine lv_iload_n hx hb dX9_reckonTouch_102 rfl (lv_at hl 3 rfl) ?_
    refine lv_iconst (v := 4) hx hb dX9_reckonTouch_103 (by decide) ?_
    refine lv_imul hx hb dX9_reckonTouch_104 ?_
    obtain ⟨r11, hc13, h⟩ := bq_some h
    refine cV_l (ci := 8) (q0 := 1) (rest := [.int ((x1 * 3) + x2), .ref (a 40)]) hF hW mw_X9_74 (c_X8_reckon_l l K a d hc13) ⟨Nat.le_of_ble_eq_true rfl, Nat.le_of_ble_eq_true rfl⟩ rfl rfl (pC_1 K a d _) rfl hl.1 rfl (Nat.le_of_ble_eq_true rfl) dX9_reckonTouch_105 ⟨Nat.le_of_ble_eq_true rfl, Nat.le_of_ble_eq_true rfl⟩ (fun _ H locs hW => ?_)
    obtain ⟨q14, h⟩ := ck_some h
    refine w_lst hF hW (pC_40 K a d _) q14 (uC_40 K a d _ _ _) dX9_reckonTouch_108 (fun H locs hW => ?_)
    refine lv_aload_n hx hb dX9_reckonTouch_109 rfl (lv_at hl 2 rfl) ?_
    refine g_X9_18 hF hW dX9_reckonTouch_110 ?_
    refine lv_iload_n hx hb dX9_reckonTouch_113 rfl (lv_at hl 1 rfl) ?_
    refine lv_aload_n hx hb dX9_reckonTouch_114 rfl (lv_at hl 2 rfl) ?_
    refine lv_iload_n hx hb dX9_reckonTouch_115 rfl (lv_at hl 1 rfl) ?_
    refine lv_aload_n hx hb dX9_reckonTouch_116 rfl (lv_at hl 2 rfl) ?_
    refine g_X9_37 hF hW dX9_reckonTouch_117 ?_
    refine g_X9_60 hF hW dX9_reckonTouch_120 ?_
    refine lv_iload hx hb dX9_reckonTouch_123 (lv_at hl 0 rfl) ?_
    obtain ⟨q15, h⟩ := ck_some h
    refine w_ild hF hW (pC_18 K a d _) q15 dX9_reckonTouch_125 ?_
    obtain ⟨r16, M17, hc18, h⟩ := bd_some h
    refine cV_i (ci := 9) (q0 := 38) (rest := [.int ((x1 * 3) + x2), .ref (a 41)]) hF hW mw_X9_83 (c_X9_spotOf l K a d hc18) ⟨Nat.le_of_ble_eq_true rfl, Nat.le_of_ble_eq_true rfl⟩ rfl rfl (pC_38 K a d _) rfl hl.1 rfl (Nat.le_of_ble_eq_true rfl) dX9_reckonTouch_126 ⟨Nat.le_of_ble_eq_true rfl, Nat.le_of_ble_eq_true rfl⟩ (fun _ H locs hW => ?_)
    obtain ⟨q19, h⟩ := ck_some h
    refine w_ist hF hW (pC_41 K a d _) q19 (uC_41 K a d _ _ _) dX9_reckonTouch_129 (fun H locs hW => ?_)
    obtain rfl := Option.some.inj h
    exact rt_v hF hr hk (fun _ => 0) hW dX9_reckonTouch_130
  · have h := ifn q4 h
    obtain rfl := Option.some.inj h
    exact rt_v hF hr hk (fun _ => 0) hW dX9_reckonTouch_42
set_option maxRecDepth 100000 in
set_option maxHeartbeats 1000000 in
theorem c_X10_arrange (l : Launch) (K : Kx) (a d : Nat → Nat) {M M0 : Mem}   (h : f_X10_arrange M = some M0) : CMv l yX10_arrange cX10_arrange 3 ({ frames := 3, cells := 0, slots := 0, locals := 86 } : Room) K [.ref (a 55)] (wC K a d M) (fun _ => wC K a d M0) := by
  refine cs_v (by decide +kernel) (Nat.le_of_ble_eq_true rfl) ?_
  intro p e s m args below meth c A ls hF hr hk hnm hW hl
  have hx := hF.1
  have hb := hF.2.1
  have hl : lv_has ls 3 [(0, .ref (a 55))] := hl
  obtain ⟨H, hH⟩ : ∃ z, z = s.heap := ⟨_, rfl⟩
  rw [← hH] at hW ⊢
  have J10 : ∀ (n10 : Nat) (x1 : Int32) (M : Mem) (H : Heap) (locs : List Loc) (ls : Array Slot), f_X10_arrange_10 n10 x1 M = some M0 → Wd K A s (wC K a d M) H locs → lv_has ls 3 [(0, .ref (a 55)), (1, .int x1)] → W p l e ({ frames := 3, cells := 0, slots := 0, locals := 86 } : Room) s m args below meth c H locs 0 0 (EndV K A (fun _ => wC K a d M0) below args s ({ frames := 3, cells := 0, slots := 0, locals := 86 } : Room)) (F0 m 10 ls []) := by
    intro n10
    induction n10 with
    | zero => intro x1 M H locs ls h; exact absurd h (by simp [f_X10_arrange_10])
    | succ n10 ih10 =>
      have J41 : ∀ (n41 : Nat) (x1 : Int32) (M : Mem) (H : Heap) (locs : List Loc) (ls : Array Slot), f_X10_arrange_41 n41 x1 M = some M0 → Wd K A s (wC K a d M) H locs → lv_has ls 3 [(0, .ref (a 55)), (1, .int x1)] → W p l e ({ frames := 3, cells := 0, slots := 0, locals := 86 } : Room) s m args below meth c H locs 0 0 (EndV K A (fun _ => wC K a d M0) below args s ({ frames := 3, cells := 0, slots := 0, locals := 86 } : Room)) (F0 m 41 ls []) := by
        intro n41
        induction n41 with
        | zero => intro x1 M H locs ls h; exact absurd h (by simp [f_X10_arrange_41])
        | succ n41 ih41 =>
          have J54 : ∀ (n54 : Nat) (x1 : Int32) (x2 : Int32) (M : Mem) (H : Heap) (locs : List Loc) (ls : Array Slot), f_X10_arrange_54 (f_X10_arrange_41 n41) n54 x1 x2 M = some M0 → Wd K A s (wC K a d M) H locs → lv_has ls 3 [(0, .ref (a 55)), (1, .int x1), (2, .int x2)] → W p l e ({ frames := 3, cells := 0, slots := 0, locals := 86 } : Room) s m args below meth c H locs 0 0 (EndV K A (fun _ => wC K a d M0) below args s ({ frames := 3, cells := 0, slots := 0, locals := 86 } : Room)) (F0 m 54 ls []) := by
            intro n54
            induction n54 with
            | zero => intro x1 x2 M H locs ls h; exact absurd h (by simp [f_X10_arrange_54])
            | succ n54 ih54 =>
              intro x1 x2 M H locs ls h hW hl
              rw [f_X10_arrange_54] at h
              refine lv_iload_n hx hb dX10_arrange_54 rfl (lv_at hl 2 rfl) ?_
              refine lv_iload_n hx hb dX10_arrange_55 rfl (lv_at hl 1 rfl) ?_
              refine lv_iadd hx hb dX10_arrange_56 ?_
              refine lv_aload_n hx hb dX10_arrange_57 rfl (lv_at hl 0 rfl) ?_
              refine g_X10_61 hF hW dX10_arrange_58 ?_
              refine g_X10_69 hF hW dX10_arrange_61 ?_
              refine lv_icmp_ge (tgt := 99) hx hb dX10_arrange_64 (by decide) (fun q8 => ?_) (fun q8 => ?_)
              · have h := ifp q8 h
                refine lv_iload_n hx hb dX10_arrange_99 rfl (lv_at hl 1 rfl) ?_
                refine lv_iconst (v := 2) hx hb dX10_arrange_100 (by decide) ?_
                refine lv_imul hx hb dX10_arrange_101 ?_
                refine lv_istore_n (lv' := [(1, .int (x1 * 2)), (0, .ref (a 55)), (2, .int x2)]) hx hb dX10_arrange_102 rfl hl (by decide) rfl (fun ls hl => ?_)
                refine lv_goto (tgt := 41) hx hb dX10_arrange_103 (by decide) ?_
                exact ih41 (x1 * 2) _ _ _ _ h hW (lv_sub hl [1, 0] rfl)
              · have h := ifn q8 h
                refine lv_aload_n hx hb dX10_arrange_67 rfl (lv_at hl 0 rfl) ?_
                refine lv_iload_n hx hb dX10_arrange_68 rfl (lv_at hl 2 rfl) ?_
                refine lv_iload_n hx hb dX10_arrange_69 rfl (lv_at hl 2 rfl) ?_
                refine lv_iload_n hx hb dX10_arrange_70 rfl (lv_at hl 1 rfl) ?_
                refine lv_iadd hx hb dX10_arrange_71 ?_
                refine lv_iload_n hx hb dX10_arrange_72 rfl (lv_at hl 2 rfl) ?_
                refine lv_iconst (v := 2) hx hb dX10_arrange_73 (by decide) ?_
                refine lv_iload_n hx hb dX10_arrange_74 rfl (lv_at hl 1 rfl) ?_
                refine lv_imul hx hb dX10_arrange_75 ?_
                refine lv_iadd hx hb dX10_arrange_76 ?_
                refine lv_aload_n hx hb dX10_arrange_77 rfl (lv_at hl 0 rfl) ?_
                refine g_X10_61 hF hW dX10_arrange_78 ?_
                refine g_X10_69 hF hW dX10_arrange_81 ?_
                obtain ⟨r9, hc11, h⟩ := bq_some h
                refine cS_i (rest := [.int (x2 + x1), .int x2, .ref (a 55)]) hF hW mw_X10_78 (c_J9_min_7cf53 l K hc11) ⟨Nat.le_of_ble_eq_true rfl, Nat.le_of_ble_eq_true rfl⟩ rfl hl.1 rfl (Nat.le_of_ble_eq_true rfl) dX10_arrange_84 ⟨Nat.le_of_ble_eq_true rfl, Nat.le_of_ble_eq_true rfl⟩ (fun _ H locs hW => ?_)
                obtain ⟨M13, hc14, h⟩ := bm_some h
                refine cV_v (ci := 10) (q0 := 55) (rest := []) hF hW mw_X10_84 (c_X10_merge l K a d hc14) ⟨Nat.le_of_ble_eq_true rfl, Nat.le_of_ble_eq_true rfl⟩ rfl rfl (pC_55 K a d _) rfl hl.1 rfl (Nat.le_of_ble_eq_true rfl) dX10_arrange_87 ⟨Nat.le_of_ble_eq_true rfl, Nat.le_of_ble_eq_true rfl⟩ (fun _ H locs hW => ?_)
                refine lv_iload_n hx hb dX10_arrange_90 rfl (lv_at hl 2 rfl) ?_
                refine lv_iconst (v := 2) hx hb dX10_arrange_91 (by decide) ?_
                refine lv_iload_n hx hb dX10_arrange_92 rfl (lv_at hl 1 rfl) ?_
                refine lv_imul hx hb dX10_arrange_93 ?_
                refine lv_iadd hx hb dX10_arrange_94 ?_
                refine lv_istore_n (lv' := [(2, .int (x2 + (2 * x1))), (0, .ref (a 55)), (1, .int x1)]) hx hb dX10_arrange_95 rfl hl (by decide) rfl (fun ls hl => ?_)
                refine lv_goto (tgt := 54) hx hb dX10_arrange_96 (by decide) ?_
                exact ih54 x1 (x2 + (2 * x1)) _ _ _ _ h hW (lv_sub hl [1, 2, 0] rfl)
          have J108 : ∀ (n108 : Nat) (x1 : Int32) (M : Mem) (H : Heap) (locs : List Loc) (ls : Array Slot), f_X10_arrange_108 n108 x1 M = some M0 → Wd K A s (wC K a d M) H locs → lv_has ls 3 [(0, .ref (a 55)), (1, .int x1)] → W p l e ({ frames := 3, cells := 0, slots := 0, locals := 86 } : Room) s m args below meth c H locs 0 0 (EndV K A (fun _ => wC K a d M0) below args s ({ frames := 3, cells := 0, slots := 0, locals := 86 } : Room)) (F0 m 108 ls []) := by
            intro n108
            induction n108 with
            | zero => intro x1 M H locs ls h; exact absurd h (by simp [f_X10_arrange_108])
            | succ n108 ih108 =>
              intro x1 M H locs ls h hW hl
              rw [f_X10_arrange_108] at h
              refine lv_iload_n hx hb dX10_arrange_108 rfl (lv_at hl 1 rfl) ?_
              refine lv_aload_n hx hb dX10_arrange_109 rfl (lv_at hl 0 rfl) ?_
              refine g_X10_61 hF hW dX10_arrange_110 ?_
              refine g_X10_69 hF hW dX10_arrange_113 ?_
              refine lv_icmp_ge (tgt := 137) hx hb dX10_arrange_116 (by decide) (fun q15 => ?_) (fun q15 => ?_)
              · have h := ifp q15 h
                refine lv_aload_n hx hb dX10_arrange_137 rfl (lv_at hl 0 rfl) ?_
                refine lv_iconst (v := 1) hx hb dX10_arrange_138 (by decide) ?_
                refine s_X10_25 (x := true) hF hW dX10_arrange_139 (fun H locs hW => ?_)
                obtain rfl := Option.some.inj h
                exact rt_v hF hr hk (fun _ => 0) hW dX10_arrange_142
              · have h := ifn q15 h
                refine lv_aload_n hx hb dX10_arrange_119 rfl (lv_at hl 0 rfl) ?_
                refine g_X10_22 hF hW dX10_arrange_120 ?_
                refine lv_aload_n hx hb dX10_arrange_123 rfl (lv_at hl 0 rfl) ?_
                refine g_X10_15 hF hW dX10_arrange_124 ?_
                refine lv_iload_n hx hb dX10_arrange_127 rfl (lv_at hl 1 rfl) ?_
                obtain ⟨q16, h⟩ := ck_some h
                refine w_ild hF hW (pC_57 K a d _) q16 dX10_arrange_128 ?_
                refine lv_iload_n hx hb dX10_arrange_129 rfl (lv_at hl 1 rfl) ?_
                obtain ⟨q17, h⟩ := ck_some h
                refine w_ist hF hW (pC_59 K a d _) q17 (uC_59 K a d _ _ _) dX10_arrange_130 (fun H locs hW => ?_)
                refine lv_iinc (v := (x1 + 1)) (lv' := [(1, .int (x1 + 1)), (0, .ref (a 55))]) hx hb dX10_arrange_131 hl (k := 1) rfl rfl (by decide) rfl (fun ls hl => ?_)
                refine lv_goto (tgt := 108) hx hb dX10_arrange_134 (by decide) ?_
                exact ih108 (x1 + 1) _ _ _ _ h hW (lv_sub hl [1, 0] rfl)
          intro x1 M H locs ls h hW hl
          rw [f_X10_arrange_41] at h
          refine lv_iload_n hx hb dX10_arrange_41 rfl (lv_at hl 1 rfl) ?_
          refine lv_aload_n hx hb dX10_arrange_42 rfl (lv_at hl 0 rfl) ?_
          refine g_X10_61 hF hW dX10_arrange_43 ?_
          refine g_X10_69 hF hW dX10_arrange_46 ?_
          refine lv_icmp_ge (tgt := 106) hx hb dX10_arrange_49 (by decide) (fun q7 => ?_) (fun q7 => ?_)
          · have h := ifp q7 h
            refine lv_iconst (v := 0) hx hb dX10_arrange_106 (by decide) ?_
            refine lv_istore_n (lv' := [(1, .int 0), (0, .ref (a 55))]) hx hb dX10_arrange_107 rfl hl (by decide) rfl (fun ls hl => ?_)
            exact J108 100000 0 _ _ _ _ h hW (lv_sub hl [1, 0] rfl)
          · have h := ifn q7 h
            refine lv_iconst (v := 0) hx hb dX10_arrange_52 (by decide) ?_
            refine lv_istore_n (lv' := [(2, .int 0), (0, .ref (a 55)), (1, .int x1)]) hx hb dX10_arrange_53 rfl hl (by decide) rfl (fun ls hl => ?_)
            exact J54 100000 x1 0 _ _ _ _ h hW (lv_sub hl [1, 2, 0] rfl)
      intro x1 M H locs ls h hW hl
      rw [f_X10_arrange_10] at h
      refine lv_iload_n hx hb dX10_arrange_10 rfl (lv_at hl 1 rfl) ?_
      refine lv_aload_n hx hb dX10_arrange_11 rfl (lv_at hl 0 rfl) ?_
      refine g_X10_61 hF hW dX10_arrange_12 ?_
      refine g_X10_69 hF hW dX10_arrange_15 ?_
      refine lv_icmp_ge (tgt := 39) hx hb dX10_arrange_18 (by decide) (fun q2 => ?_) (fun q2 => ?_)
      · have h := ifp q2 h
        refine lv_iconst (v := 1) hx hb dX10_arrange_39 (by decide) ?_
        refine lv_istore_n (lv' := [(1, .int 1), (0, .ref (a 55))]) hx hb dX10_arrange_40 rfl hl (by decide) rfl (fun ls hl => ?_)
        exact J41 100000 1 _ _ _ _ h hW (lv_sub hl [1, 0] rfl)
      · have h := ifn q2 h
        refine lv_aload_n hx hb dX10_arrange_21 rfl (lv_at hl 0 rfl) ?_
        refine lv_iload_n hx hb dX10_arrange_22 rfl (lv_at hl 1 rfl) ?_
        obtain ⟨M4, hc5, h⟩ := bm_some h
        refine cV_v (ci := 10) (q0 := 55) (rest := []) hF hW mw_X10_74 (c_X10_reckonTimes l K a d hc5) ⟨Nat.le_of_ble_eq_true rfl, Nat.le_of_ble_eq_true rfl⟩ rfl rfl (pC_55 K a d _) rfl hl.1 rfl (Nat.le_of_ble_eq_true rfl) dX10_arrange_23 ⟨Nat.le_of_ble_eq_true rfl, Nat.le_of_ble_eq_true rfl⟩ (fun _ H locs hW => ?_)
        refine lv_aload_n hx hb dX10_arrange_26 rfl (lv_at hl 0 rfl) ?_
        refine g_X10_15 hF hW dX10_arrange_27 ?_
        refine lv_iload_n hx hb dX10_arrange_30 rfl (lv_at hl 1 rfl) ?_
        refine lv_iload_n hx hb dX10_arrange_31 rfl (lv_at hl 1 rfl) ?_
        obtain ⟨q6, h⟩ := ck_some h
        refine w_ist hF hW (pC_57 K a d _) q6 (uC_57 K a d _ _ _) dX10_arrange_32 (fun H locs hW => ?_)
        refine lv_iinc (v := (x1 + 1)) (lv' := [(1, .int (x1 + 1)), (0, .ref (a 55))]) hx hb dX10_arrange_33 hl (k := 1) rfl rfl (by decide) rfl (fun ls hl => ?_)
        refine lv_goto (tgt := 10) hx hb dX10_arrange_36 (by decide) ?_
        exact ih10 (x1 + 1) _ _ _ _ h hW (lv_sub hl [1, 0] rfl)
  unfold f_X10_arrange at h
  refine lv_aload_n hx hb dX10_arrange_0 rfl (lv_at hl 0 rfl) ?_
  refine g_X10_25 hF hW dX10_arrange_1 ?_
  refine lz_eq (tgt := 8) hx hb dX10_arrange_4 (by decide) (fun q1 => ?_) (fun q1 => ?_)
  · have h := ifn q1 h
    refine lv_iconst (v := 0) hx hb dX10_arrange_8 (by decide) ?_
    refine lv_istore_n (lv' := [(1, .int 0), (0, .ref (a 55))]) hx hb dX10_arrange_9 rfl hl (by decide) rfl (fun ls hl => ?_)
    exact J10 100000 0 _ _ _ _ h hW (lv_sub hl [1, 0] rfl)
  · have h := ifp q1 h
    obtain rfl := Option.some.inj h
    exact rt_v hF hr hk (fun _ => 0) hW dX10_arrange_7
set_option maxRecDepth 100000 in
set_option maxHeartbeats 1000000 in
theorem c_X10_partLines (l : Launch) (K : Kx) (a d : Nat → Nat) {M M0 : Mem}   (h : f_X10_partLines M = some M0) : CMv l yX10_partLines cX10_partLines 3 ({ frames := 4, cells := 0, slots := 0, locals := 108 } : Room) K [.ref (a 55)] (wC K a d M) (fun _ => wC K a d M0) := by
  refine cs_v (by decide +kernel) (Nat.le_of_ble_eq_true rfl) ?_
  intro p e s m args below meth c A ls hF hr hk hnm hW hl
  have hx := hF.1
  have hb := hF.2.1
  have hl : lv_has ls 3 [(0, .ref (a 55))] := hl
  obtain ⟨H, hH⟩ : ∃ z, z = s.heap := ⟨_, rfl⟩
  rw [← hH] at hW ⊢
  have J21 : ∀ (n21 : Nat) (x1 : Int32) (x2 : Int32) (M : Mem) (H : Heap) (locs : List Loc) (ls : Array Slot), f_X10_partLines_21 n21 x1 x2 M = some M0 → Wd K A s (wC K a d M) H locs → lv_has ls 3 [(0, .ref (a 55)), (1, .int x1), (2, .int x2)] → W p l e ({ frames := 4, cells := 0, slots := 0, locals := 108 } : Room) s m args below meth c H locs 0 0 (EndV K A (fun _ => wC K a d M0) below args s ({ frames := 4, cells := 0, slots := 0, locals := 108 } : Room)) (F0 m 21 ls []) := by
    intro n21
    induction n21 with
    | zero => intro x1 x2 M H locs ls h; exact absurd h (by simp [f_X10_partLines_21])
    | succ n21 ih21 =>
      have J71 : ∀ (M : Mem) (H : Heap) (locs : List Loc) (ls : Array Slot), f_X10_partLines_71 M = some M0 → Wd K A s (wC K a d M) H locs → lv_has ls 3 [(0, .ref (a 55))] → W p l e ({ frames := 4, cells := 0, slots := 0, locals := 108 } : Room) s m args below meth c H locs 0 0 (EndV K A (fun _ => wC K a d M0) below args s ({ frames := 4, cells := 0, slots := 0, locals := 108 } : Room)) (F0 m 71 ls []) := by
        intro M H locs ls h hW hl
        unfold f_X10_partLines_71 at h
        refine lv_aload_n hx hb dX10_partLines_71 rfl (lv_at hl 0 rfl) ?_
        refine g_X10_48 hF hW dX10_partLines_72 ?_
        refine lv_aload_n hx hb dX10_partLines_75 rfl (lv_at hl 0 rfl) ?_
        refine g_X10_51 hF hW dX10_partLines_76 ?_
        refine lv_aload_n hx hb dX10_partLines_79 rfl (lv_at hl 0 rfl) ?_
        refine g_X10_61 hF hW dX10_partLines_80 ?_
        refine g_X10_69 hF hW dX10_partLines_83 ?_
        obtain ⟨q11, h⟩ := ck_some h
        refine w_ist hF hW (pC_62 K a d _) q11 (uC_62 K a d _ _ _) dX10_partLines_86 (fun H locs hW => ?_)
        refine lv_aload_n hx hb dX10_partLines_87 rfl (lv_at hl 0 rfl) ?_
        refine lv_iconst (v := 1) hx hb dX10_partLines_88 (by decide) ?_
        refine s_X10_54 (x := true) hF hW dX10_partLines_89 (fun H locs hW => ?_)
        obtain rfl := Option.some.inj h
        exact rt_v hF hr hk (fun _ => 0) hW dX10_partLines_92
      intro x1 x2 M H locs ls h hW hl
      rw [f_X10_partLines_21] at h
      refine lv_iload_n hx hb dX10_partLines_21 rfl (lv_at hl 2 rfl) ?_
      refine lv_sipush (v := 400) hx hb dX10_partLines_22 (by decide) ?_
      refine lv_icmp_ge (tgt := 71) hx hb dX10_partLines_25 (by decide) (fun q5 => ?_) (fun q5 => ?_)
      · have h := ifp q5 h
        exact J71 _ _ _ _ h hW (lv_sub hl [0] rfl)
      · have h := ifn q5 h
        refine lv_iload_n hx hb dX10_partLines_28 rfl (lv_at hl 1 rfl) ?_
        refine lv_aload_n hx hb dX10_partLines_29 rfl (lv_at hl 0 rfl) ?_
        refine g_X10_61 hF hW dX10_partLines_30 ?_
        refine g_X10_69 hF hW dX10_partLines_33 ?_
        refine lv_icmp_ge (tgt := 71) hx hb dX10_partLines_36 (by decide) (fun q6 => ?_) (fun q6 => ?_)
        · have h := ifp q6 h
          exact J71 _ _ _ _ h hW (lv_sub hl [0] rfl)
        · have h := ifn q6 h
          refine lv_aload_n hx hb dX10_partLines_39 rfl (lv_at hl 0 rfl) ?_
          refine g_X10_48 hF hW dX10_partLines_40 ?_
          refine lv_aload_n hx hb dX10_partLines_43 rfl (lv_at hl 0 rfl) ?_
          refine g_X10_51 hF hW dX10_partLines_44 ?_
          refine lv_iload_n hx hb dX10_partLines_47 rfl (lv_at hl 1 rfl) ?_
          obtain ⟨q7, h⟩ := ck_some h
          refine w_ist hF hW (pC_62 K a d _) q7 (uC_62 K a d _ _ _) dX10_partLines_48 (fun H locs hW => ?_)
          refine lv_aload_n hx hb dX10_partLines_49 rfl (lv_at hl 0 rfl) ?_
          refine lv_dup hx hb dX10_partLines_50 rfl ?_
          refine g_X10_51 hF hW dX10_partLines_51 ?_
          refine lv_iconst (v := 1) hx hb dX10_partLines_54 (by decide) ?_
          refine lv_iadd hx hb dX10_partLines_55 ?_
          refine s_X10_51 (x := (((sI M 62 (M.1 122 0).toNatClampNeg x1).1 122 0) + 1)) hF hW dX10_partLines_56 (fun H locs hW => ?_)
          refine lv_aload_n hx hb dX10_partLines_59 rfl (lv_at hl 0 rfl) ?_
          refine lv_iload_n hx hb dX10_partLines_60 rfl (lv_at hl 1 rfl) ?_
          obtain ⟨r8, hc10, h⟩ := bq_some h
          refine cV_i (ci := 10) (q0 := 55) (rest := []) hF hW mw_X10_166 (c_X10_endOfLine l K a d hc10) ⟨Nat.le_of_ble_eq_true rfl, Nat.le_of_ble_eq_true rfl⟩ rfl rfl (pC_55 K a d _) rfl hl.1 rfl (Nat.le_of_ble_eq_true rfl) dX10_partLines_61 ⟨Nat.le_of_ble_eq_true rfl, Nat.le_of_ble_eq_true rfl⟩ (fun _ H locs hW => ?_)
          refine lv_istore_n (lv' := [(1, .int r8), (0, .ref (a 55)), (2, .int x2)]) hx hb dX10_partLines_64 rfl hl (by decide) rfl (fun ls hl => ?_)
          refine lv_iinc (v := (x2 + 1)) (lv' := [(2, .int (x2 + 1)), (1, .int r8), (0, .ref (a 55))]) hx hb dX10_partLines_65 hl (k := 2) rfl rfl (by decide) rfl (fun ls hl => ?_)
          refine lv_goto (tgt := 21) hx hb dX10_partLines_68 (by decide) ?_
          exact ih21 r8 (x2 + 1) _ _ _ _ h hW (lv_sub hl [2, 1, 0] rfl)
  unfold f_X10_partLines at h
  refine lv_aload_n hx hb dX10_partLines_0 rfl (lv_at hl 0 rfl) ?_
  refine g_X10_54 hF hW dX10_partLines_1 ?_
  refine lz_eq (tgt := 8) hx hb dX10_partLines_4 (by decide) (fun q1 => ?_) (fun q1 => ?_)
  · have h := ifn q1 h
    refine lv_aload_n hx hb dX10_partLines_8 rfl (lv_at hl 0 rfl) ?_
    obtain ⟨M3, hc4, h⟩ := bm_some h
    refine cV_v (ci := 10) (q0 := 55) (rest := []) hF hW mw_X10_126 (c_X10_arrange l K a d hc4) ⟨Nat.le_of_ble_eq_true rfl, Nat.le_of_ble_eq_true rfl⟩ rfl rfl (pC_55 K a d _) rfl hl.1 rfl (Nat.le_of_ble_eq_true rfl) dX10_partLines_9 ⟨Nat.le_of_ble_eq_true rfl, Nat.le_of_ble_eq_true rfl⟩ (fun _ H locs hW => ?_)
    refine lv_aload_n hx hb dX10_partLines_12 rfl (lv_at hl 0 rfl) ?_
    refine lv_iconst (v := 0) hx hb dX10_partLines_13 (by decide) ?_
    refine s_X10_51 (x := 0) hF hW dX10_partLines_14 (fun H locs hW => ?_)
    refine lv_iconst (v := 0) hx hb dX10_partLines_17 (by decide) ?_
    refine lv_istore_n (lv' := [(1, .int 0), (0, .ref (a 55))]) hx hb dX10_partLines_18 rfl hl (by decide) rfl (fun ls hl => ?_)
    refine lv_iconst (v := 0) hx hb dX10_partLines_19 (by decide) ?_
    refine lv_istore_n (lv' := [(2, .int 0), (1, .int 0), (0, .ref (a 55))]) hx hb dX10_partLines_20 rfl hl (by decide) rfl (fun ls hl => ?_)
    exact J21 100000 0 0 _ _ _ _ h hW (lv_sub hl [2, 1, 0] rfl)
  · have h := ifp q1 h
    obtain rfl := Option.some.inj h
    exact rt_v hF hr hk (fun _ => 0) hW dX10_partLines_7
set_option maxRecDepth 100000 in
set_option maxHeartbeats 1000000 in
theorem c_X11_size (l : Launch) (K : Kx) (a d : Nat → Nat) {M M0 : Mem} {x1 : Int32} {x2 : Int32} {r0 : Int32} (h : f_X11_size M x1 x2 = some (r0, M0)) : CMi l yX11_size cX11_size 4 (some .int) ({ frames := 2, cells := 0, slots := 0, locals := 40 } : Room) K [.ref (a 0), .int x1, .int x2] (wC K a d M) (fun _ => wC K a d M0) r0 := by
  refine cs_i (by decide +kernel) (Nat.le_of_ble_eq_true rfl) ?_
  intro p e s m args below meth c A ls hF hr hk hnm hW hl
  have hx := hF.1
  have hb := hF.2.1
  have hl : lv_has ls 4 [(0, .ref (a 0)), (1, .int x1), (2, .int x2)] := hl
  obtain ⟨H, hH⟩ : ∃ z, z = s.heap := ⟨_, rfl⟩
  rw [← hH] at hW ⊢
  unfold f_X11_size at h
  refine lv_iload_n hx hb dX11_size_0 rfl (lv_at hl 1 rfl) ?_
  refine lv_iconst (v := 0) hx hb dX11_size_1 (by decide) ?_
  refine lv_iconst (v := 2) hx hb dX11_size_2 (by decide) ?_
  obtain ⟨r1, hc3, h⟩ := bq_some h
  refine cS_i (rest := []) hF hW mw_X11_113 (c_X11_within l K hc3) ⟨Nat.le_of_ble_eq_true rfl, Nat.le_of_ble_eq_true rfl⟩ rfl hl.1 rfl (Nat.le_of_ble_eq_true rfl) dX11_size_3 ⟨Nat.le_of_ble_eq_true rfl, Nat.le_of_ble_eq_true rfl⟩ (fun _ H locs hW => ?_)
  refine lz_eq (tgt := 22) hx hb dX11_size_6 (by decide) (fun q4 => ?_) (fun q4 => ?_)
  · have h := ifn q4 h
    refine lv_sipush (v := (-1000)) hx hb dX11_size_22 (by decide) ?_
    obtain ⟨rfl, rfl⟩ := Prod.mk.inj (Option.some.inj h)
    exact rt_i hF hr hk rfl (fun _ => 0) hW rfl dX11_size_25
  · have h := ifp q4 h
    refine lv_iload_n hx hb dX11_size_9 rfl (lv_at hl 2 rfl) ?_
    refine lv_sipush (v := (-400)) hx hb dX11_size_10 (by decide) ?_
    refine lv_sipush (v := 400) hx hb dX11_size_13 (by decide) ?_
    obtain ⟨r5, hc7, h⟩ := bq_some h
    refine cS_i (rest := []) hF hW mw_X11_113 (c_X11_within l K hc7) ⟨Nat.le_of_ble_eq_true rfl, Nat.le_of_ble_eq_true rfl⟩ rfl hl.1 rfl (Nat.le_of_ble_eq_true rfl) dX11_size_16 ⟨Nat.le_of_ble_eq_true rfl, Nat.le_of_ble_eq_true rfl⟩ (fun _ H locs hW => ?_)
    refine lz_ne (tgt := 26) hx hb dX11_size_19 (by decide) (fun q8 => ?_) (fun q8 => ?_)
    · have h := ifp q8 h
      refine lv_aload_n hx hb dX11_size_26 rfl (lv_at hl 0 rfl) ?_
      refine g_X11_10 hF hW dX11_size_27 ?_
      refine g_X11_117 hF hW dX11_size_30 ?_
      refine lv_iload_n hx hb dX11_size_33 rfl (lv_at hl 1 rfl) ?_
      obtain ⟨q9, h⟩ := ck_some h
      refine w_ild hF hW (pC_2 K a d _) q9 dX11_size_34 ?_
      refine lv_istore_n (lv' := [(3, .int (M.1 2 x1.toNatClampNeg)), (0, .ref (a 0)), (1, .int x1), (2, .int x2)]) hx hb dX11_size_35 rfl hl (by decide) rfl (fun ls hl => ?_)
      refine lv_aload_n hx hb dX11_size_36 rfl (lv_at hl 1 rfl) ?_
      refine g_X11_10 hF hW dX11_size_37 ?_
      refine g_X11_117 hF hW dX11_size_40 ?_
      refine lv_iload_n hx hb dX11_size_43 rfl (lv_at hl 2 rfl) ?_
      refine lv_iload_n hx hb dX11_size_44 rfl (lv_at hl 3 rfl) ?_
      obtain ⟨q10, h⟩ := ck_some h
      refine w_ist hF hW (pC_2 K a d _) q10 (uC_2 K a d _ _ _) dX11_size_45 (fun H locs hW => ?_)
      refine lv_iload_n hx hb dX11_size_46 rfl (lv_at hl 0 rfl) ?_
      refine lv_iload_n hx hb dX11_size_47 rfl (lv_at hl 3 rfl) ?_
      refine lv_icmp_eq (tgt := 55) hx hb dX11_size_48 (by decide) (fun q11 => ?_) (fun q11 => ?_)
      · have h := ifp q11 h
        refine lv_iload_n hx hb dX11_size_55 rfl (lv_at hl 0 rfl) ?_
        obtain ⟨rfl, rfl⟩ := Prod.mk.inj (Option.some.inj h)
        exact rt_i hF hr hk rfl (fun _ => 0) hW rfl dX11_size_56
      · have h := ifn q11 h
        refine lv_aload_n hx hb dX11_size_51 rfl (lv_at hl 1 rfl) ?_
        obtain ⟨M13, hc14, h⟩ := bm_some h
        refine cV_v (ci := 11) (q0 := 0) (rest := []) hF hW mw_X11_120 (c_X11_programChanged l K a d hc14) ⟨Nat.le_of_ble_eq_true rfl, Nat.le_of_ble_eq_true rfl⟩ rfl rfl (pC_0 K a d _) rfl hl.1 rfl (Nat.le_of_ble_eq_true rfl) dX11_size_52 ⟨Nat.le_of_ble_eq_true rfl, Nat.le_of_ble_eq_true rfl⟩ (fun _ H locs hW => ?_)
        refine lv_iload_n hx hb dX11_size_55 rfl (lv_at hl 0 rfl) ?_
        obtain ⟨rfl, rfl⟩ := Prod.mk.inj (Option.some.inj h)
        exact rt_i hF hr hk rfl (fun _ => 0) hW rfl dX11_size_56
    · have h := ifn q8 h
      refine lv_sipush (v := (-1000)) hx hb dX11_size_22 (by decide) ?_
      obtain ⟨rfl, rfl⟩ := Prod.mk.inj (Option.some.inj h)
      exact rt_i hF hr hk rfl (fun _ => 0) hW rfl dX11_size_25
set_option maxRecDepth 100000 in
set_option maxHeartbeats 1000000 in
theorem c_X11_grow (l : Launch) (K : Kx) (a d : Nat → Nat) {M M0 : Mem} {x1 : Int32} {x2 : Int32} {x3 : Int32} {x4 : Int32} {r0 : Int32} (h : f_X11_grow M x1 x2 x3 x4 = some (r0, M0)) : CMi l yX11_grow cX11_grow 6 (some .int) ({ frames := 5, cells := 0, slots := 0, locals := 132 } : Room) K [.ref (a 0), .int x1, .int x2, .int x3, .int x4] (wC K a d M) (fun _ => wC K a d M0) r0 := by
  refine cs_i (by decide +kernel) (Nat.le_of_ble_eq_true rfl) ?_
  intro p e s m args below meth c A ls hF hr hk hnm hW hl
  have hx := hF.1
  have hb := hF.2.1
  have hl : lv_has ls 6 [(0, .ref (a 0)), (1, .int x1), (2, .int x2), (3, .int x3), (4, .int x4)] := hl
  obtain ⟨H, hH⟩ : ∃ z, z = s.heap := ⟨_, rfl⟩
  rw [← hH] at hW ⊢
  unfold f_X11_grow at h
  refine lv_aload_n hx hb dX11_grow_0 rfl (lv_at hl 0 rfl) ?_
  refine g_X11_19 hF hW dX11_grow_1 ?_
  refine g_X11_409 hF hW dX11_grow_4 ?_
  refine lv_bipush (v := 40) hx hb dX11_grow_7 (by decide) ?_
  refine lv_icmp_lt (tgt := 15) hx hb dX11_grow_9 (by decide) (fun q1 => ?_) (fun q1 => ?_)
  · have h := ifp q1 h
    refine lv_aload_n hx hb dX11_grow_15 rfl (lv_at hl 0 rfl) ?_
    refine g_X11_19 hF hW dX11_grow_16 ?_
    refine lv_iload_n hx hb dX11_grow_19 rfl (lv_at hl 1 rfl) ?_
    refine lv_iload_n hx hb dX11_grow_20 rfl (lv_at hl 2 rfl) ?_
    refine lv_iload_n hx hb dX11_grow_21 rfl (lv_at hl 3 rfl) ?_
    refine lv_iload hx hb dX11_grow_22 (lv_at hl 4 rfl) ?_
    obtain ⟨r2, M3, hc4, h⟩ := bd_some h
    refine cV_i (ci := 2) (q0 := 5) (rest := []) hF hW mw_X11_423 (c_X2_add l K a d hc4) ⟨Nat.le_of_ble_eq_true rfl, Nat.le_of_ble_eq_true rfl⟩ rfl rfl (pC_5 K a d _) rfl hl.1 rfl (Nat.le_of_ble_eq_true rfl) dX11_grow_24 ⟨Nat.le_of_ble_eq_true rfl, Nat.le_of_ble_eq_true rfl⟩ (fun _ H locs hW => ?_)
    refine lv_istore (lv' := [(5, .int r2), (0, .ref (a 0)), (1, .int x1), (2, .int x2), (3, .int x3), (4, .int x4)]) hx hb dX11_grow_27 hl (by decide) rfl (fun ls hl => ?_)
    refine lv_aload_n hx hb dX11_grow_29 rfl (lv_at hl 1 rfl) ?_
    refine g_X11_45 hF hW dX11_grow_30 ?_
    obtain ⟨M6, hc7, h⟩ := bm_some h
    refine cV_v (ci := 3) (q0 := 26) (rest := []) hF hW mw_X11_426 (c_X3_begin l K a d hc7) ⟨Nat.le_of_ble_eq_true rfl, Nat.le_of_ble_eq_true rfl⟩ rfl rfl (pC_26 K a d _) rfl hl.1 rfl (Nat.le_of_ble_eq_true rfl) dX11_grow_33 ⟨Nat.le_of_ble_eq_true rfl, Nat.le_of_ble_eq_true rfl⟩ (fun _ H locs hW => ?_)
    refine lv_aload_n hx hb dX11_grow_36 rfl (lv_at hl 1 rfl) ?_
    obtain ⟨M9, hc10, h⟩ := bm_some h
    refine cV_v (ci := 11) (q0 := 0) (rest := []) hF hW mw_X11_120 (c_X11_programChanged l K a d hc10) ⟨Nat.le_of_ble_eq_true rfl, Nat.le_of_ble_eq_true rfl⟩ rfl rfl (pC_0 K a d _) rfl hl.1 rfl (Nat.le_of_ble_eq_true rfl) dX11_grow_37 ⟨Nat.le_of_ble_eq_true rfl, Nat.le_of_ble_eq_true rfl⟩ (fun _ H locs hW => ?_)
    refine lv_iload hx hb dX11_grow_40 (lv_at hl 0 rfl) ?_
    obtain ⟨rfl, rfl⟩ := Prod.mk.inj (Option.some.inj h)
    exact rt_i hF hr hk rfl (fun _ => 0) hW rfl dX11_grow_42
  · have h := ifn q1 h
    refine lv_bipush (v := (-2)) hx hb dX11_grow_12 (by decide) ?_
    obtain ⟨rfl, rfl⟩ := Prod.mk.inj (Option.some.inj h)
    exact rt_i hF hr hk rfl (fun _ => 0) hW rfl dX11_grow_14
set_option maxRecDepth 100000 in
set_option maxHeartbeats 1000000 in
theorem c_X11_visitAt (l : Launch) (K : Kx) (a d : Nat → Nat) {M M0 : Mem} {x1 : Int32} {x2 : Bool} {r0 : Int32} (h : f_X11_visitAt M x1 x2 = some (r0, M0)) : CMi l yX11_visitAt cX11_visitAt 3 (some .int) ({ frames := 4, cells := 0, slots := 0, locals := 108 } : Room) K [.ref (a 0), .int x1, .int (bI x2)] (wC K a d M) (fun _ => wC K a d M0) r0 := by
  refine cs_i (by decide +kernel) (Nat.le_of_ble_eq_true rfl) ?_
  intro p e s m args below meth c A ls hF hr hk hnm hW hl
  have hx := hF.1
  have hb := hF.2.1
  have hl : lv_has ls 3 [(0, .ref (a 0)), (1, .int x1), (2, .int (bI x2))] := hl
  obtain ⟨H, hH⟩ : ∃ z, z = s.heap := ⟨_, rfl⟩
  rw [← hH] at hW ⊢
  unfold f_X11_visitAt at h
  refine lv_iload_n hx hb dX11_visitAt_0 rfl (lv_at hl 2 rfl) ?_
  refine lz_ne (tgt := 6) hx hb dX11_visitAt_1 (by decide) (fun q1 => ?_) (fun q1 => ?_)
  · have h := ifp q1 h
    refine lv_aload_n hx hb dX11_visitAt_6 rfl (lv_at hl 0 rfl) ?_
    refine g_X11_81 hF hW dX11_visitAt_7 ?_
    obtain ⟨M3, hc4, h⟩ := bm_some h
    refine cV_v (ci := 10) (q0 := 55) (rest := []) hF hW mw_X11_448 (c_X10_arrange l K a d hc4) ⟨Nat.le_of_ble_eq_true rfl, Nat.le_of_ble_eq_true rfl⟩ rfl rfl (pC_55 K a d _) rfl hl.1 rfl (Nat.le_of_ble_eq_true rfl) dX11_visitAt_10 ⟨Nat.le_of_ble_eq_true rfl, Nat.le_of_ble_eq_true rfl⟩ (fun _ H locs hW => ?_)
    refine lv_aload_n hx hb dX11_visitAt_13 rfl (lv_at hl 0 rfl) ?_
    refine g_X11_81 hF hW dX11_visitAt_14 ?_
    refine g_X11_451 hF hW dX11_visitAt_17 ?_
    refine lv_iload_n hx hb dX11_visitAt_20 rfl (lv_at hl 1 rfl) ?_
    obtain ⟨q5, h⟩ := ck_some h
    refine w_ild hF hW (pC_57 K a d _) q5 dX11_visitAt_21 ?_
    obtain ⟨rfl, rfl⟩ := Prod.mk.inj (Option.some.inj h)
    exact rt_i hF hr hk rfl (fun _ => 0) hW rfl dX11_visitAt_22
  · have h := ifn q1 h
    refine lv_iload_n hx hb dX11_visitAt_4 rfl (lv_at hl 1 rfl) ?_
    obtain ⟨rfl, rfl⟩ := Prod.mk.inj (Option.some.inj h)
    exact rt_i hF hr hk rfl (fun _ => 0) hW rfl dX11_visitAt_5
set_option maxRecDepth 100000 in
set_option maxHeartbeats 1000000 in
theorem c_X9_refresh (l : Launch) (K : Kx) (a d : Nat → Nat) {M M0 : Mem}   (h : f_X9_refresh M = some M0) : CMv l yX9_refresh cX9_refresh 3 ({ frames := 3, cells := 0, slots := 0, locals := 75 } : Room) K [.ref (a 38)] (wC K a d M) (fun _ => wC K a d M0) := by
  refine cs_v (by decide +kernel) (Nat.le_of_ble_eq_true rfl) ?_
  intro p e s m args below meth c A ls hF hr hk hnm hW hl
  have hx := hF.1
  have hb := hF.2.1
  have hl : lv_has ls 3 [(0, .ref (a 38))] := hl
  obtain ⟨H, hH⟩ : ∃ z, z = s.heap := ⟨_, rfl⟩
  rw [← hH] at hW ⊢
  have J23 : ∀ (n23 : Nat) (x1 : Int32) (M : Mem) (H : Heap) (locs : List Loc) (ls : Array Slot), f_X9_refresh_23 n23 x1 M = some M0 → Wd K A s (wC K a d M) H locs → lv_has ls 3 [(0, .ref (a 38)), (1, .int x1)] → W p l e ({ frames := 3, cells := 0, slots := 0, locals := 75 } : Room) s m args below meth c H locs 0 0 (EndV K A (fun _ => wC K a d M0) below args s ({ frames := 3, cells := 0, slots := 0, locals := 75 } : Room)) (F0 m 23 ls []) := by
    intro n23
    induction n23 with
    | zero => intro x1 M H locs ls h; exact absurd h (by simp [f_X9_refresh_23])
    | succ n23 ih23 =>
      have J36 : ∀ (n36 : Nat) (x1 : Int32) (x2 : Int32) (M : Mem) (H : Heap) (locs : List Loc) (ls : Array Slot), f_X9_refresh_36 (f_X9_refresh_23 n23) n36 x1 x2 M = some M0 → Wd K A s (wC K a d M) H locs → lv_has ls 3 [(0, .ref (a 38)), (1, .int x1), (2, .int x2)] → W p l e ({ frames := 3, cells := 0, slots := 0, locals := 75 } : Room) s m args below meth c H locs 0 0 (EndV K A (fun _ => wC K a d M0) below args s ({ frames := 3, cells := 0, slots := 0, locals := 75 } : Room)) (F0 m 36 ls []) := by
        intro n36
        induction n36 with
        | zero => intro x1 x2 M H locs ls h; exact absurd h (by simp [f_X9_refresh_36])
        | succ n36 ih36 =>
          intro x1 x2 M H locs ls h hW hl
          rw [f_X9_refresh_36] at h
          refine lv_iload_n hx hb dX9_refresh_36 rfl (lv_at hl 2 rfl) ?_
          refine lv_iconst (v := 3) hx hb dX9_refresh_37 (by decide) ?_
          refine lv_icmp_ge (tgt := 53) hx hb dX9_refresh_38 (by decide) (fun q3 => ?_) (fun q3 => ?_)
          · have h := ifp q3 h
            refine lv_iinc (v := (x1 + 1)) (lv' := [(1, .int (x1 + 1)), (0, .ref (a 38)), (2, .int x2)]) hx hb dX9_refresh_53 hl (k := 1) rfl rfl (by decide) rfl (fun ls hl => ?_)
            refine lv_goto (tgt := 23) hx hb dX9_refresh_56 (by decide) ?_
            exact ih23 (x1 + 1) _ _ _ _ h hW (lv_sub hl [1, 0] rfl)
          · have h := ifn q3 h
            refine lv_aload_n hx hb dX9_refresh_41 rfl (lv_at hl 0 rfl) ?_
            refine lv_iload_n hx hb dX9_refresh_42 rfl (lv_at hl 1 rfl) ?_
            refine lv_iload_n hx hb dX9_refresh_43 rfl (lv_at hl 2 rfl) ?_
            obtain ⟨M5, hc6, h⟩ := bm_some h
            refine cV_v (ci := 9) (q0 := 38) (rest := []) hF hW mw_X9_56 (c_X9_reckonTouch l K a d hc6) ⟨Nat.le_of_ble_eq_true rfl, Nat.le_of_ble_eq_true rfl⟩ rfl rfl (pC_38 K a d _) rfl hl.1 rfl (Nat.le_of_ble_eq_true rfl) dX9_refresh_44 ⟨Nat.le_of_ble_eq_true rfl, Nat.le_of_ble_eq_true rfl⟩ (fun _ H locs hW => ?_)
            refine lv_iinc (v := (x2 + 1)) (lv' := [(2, .int (x2 + 1)), (0, .ref (a 38)), (1, .int x1)]) hx hb dX9_refresh_47 hl (k := 2) rfl rfl (by decide) rfl (fun ls hl => ?_)
            refine lv_goto (tgt := 36) hx hb dX9_refresh_50 (by decide) ?_
            exact ih36 x1 (x2 + 1) _ _ _ _ h hW (lv_sub hl [1, 2, 0] rfl)
      intro x1 M H locs ls h hW hl
      rw [f_X9_refresh_23] at h
      refine lv_iload_n hx hb dX9_refresh_23 rfl (lv_at hl 1 rfl) ?_
      refine lv_aload_n hx hb dX9_refresh_24 rfl (lv_at hl 0 rfl) ?_
      refine g_X9_41 hF hW dX9_refresh_25 ?_
      refine g_X9_51 hF hW dX9_refresh_28 ?_
      refine lv_icmp_ge (tgt := 59) hx hb dX9_refresh_31 (by decide) (fun q2 => ?_) (fun q2 => ?_)
      · have h := ifp q2 h
        refine lv_aload_n hx hb dX9_refresh_59 rfl (lv_at hl 0 rfl) ?_
        refine lv_iconst (v := 1) hx hb dX9_refresh_60 (by decide) ?_
        refine s_X9_29 (x := true) hF hW dX9_refresh_61 (fun H locs hW => ?_)
        obtain rfl := Option.some.inj h
        exact rt_v hF hr hk (fun _ => 0) hW dX9_refresh_64
      · have h := ifn q2 h
        refine lv_iconst (v := 0) hx hb dX9_refresh_34 (by decide) ?_
        refine lv_istore_n (lv' := [(2, .int 0), (0, .ref (a 38)), (1, .int x1)]) hx hb dX9_refresh_35 rfl hl (by decide) rfl (fun ls hl => ?_)
        exact J36 100000 x1 0 _ _ _ _ h hW (lv_sub hl [1, 2, 0] rfl)
  unfold f_X9_refresh at h
  refine lv_aload_n hx hb dX9_refresh_0 rfl (lv_at hl 0 rfl) ?_
  refine g_X9_29 hF hW dX9_refresh_1 ?_
  refine lz_eq (tgt := 8) hx hb dX9_refresh_4 (by decide) (fun q1 => ?_) (fun q1 => ?_)
  · have h := ifn q1 h
    refine lv_aload_n hx hb dX9_refresh_8 rfl (lv_at hl 0 rfl) ?_
    refine lv_iconst (v := 0) hx hb dX9_refresh_9 (by decide) ?_
    refine s_X9_22 (x := 0) hF hW dX9_refresh_10 (fun H locs hW => ?_)
    refine lv_aload_n hx hb dX9_refresh_13 rfl (lv_at hl 0 rfl) ?_
    refine g_X9_26 hF hW dX9_refresh_14 ?_
    refine lv_iconst (v := 0) hx hb dX9_refresh_17 (by decide) ?_
    refine cS_v (rest := []) hF hW mw_X9_45 (c_fillI_a l K (pC_42 K a d _) (by decide)) ⟨Nat.le_of_ble_eq_true rfl, Nat.le_of_ble_eq_true rfl⟩ rfl hl.1 rfl (Nat.le_of_ble_eq_true rfl) dX9_refresh_18 ⟨Nat.le_of_ble_eq_true rfl, Nat.le_of_ble_eq_true rfl⟩ (fun _ H locs hW => ?_)
    have hW : Wd K A s (wC K a d (fI (sI M 114 0 0) 42 0 2048 0)) H locs := hW
    refine lv_iconst (v := 0) hx hb dX9_refresh_21 (by decide) ?_
    refine lv_istore_n (lv' := [(1, .int 0), (0, .ref (a 38))]) hx hb dX9_refresh_22 rfl hl (by decide) rfl (fun ls hl => ?_)
    exact J23 100000 0 _ _ _ _ h hW (lv_sub hl [1, 0] rfl)
  · have h := ifp q1 h
    obtain rfl := Option.some.inj h
    exact rt_v hF hr hk (fun _ => 0) hW dX9_refresh_7
set_option maxRecDepth 100000 in
set_option maxHeartbeats 1000000 in
theorem c_X10_isAllowed (l : Launch) (K : Kx) (a d : Nat → Nat) {M M0 : Mem}  {r0 : Bool} (h : f_X10_isAllowed M = some (r0, M0)) : CMi l yX10_isAllowed cX10_isAllowed 2 (some .boolean) ({ frames := 4, cells := 0, slots := 0, locals := 108 } : Room) K [.ref (a 55)] (wC K a d M) (fun _ => wC K a d M0) (bI r0) := by
  refine cs_i (by decide +kernel) (Nat.le_of_ble_eq_true rfl) ?_
  intro p e s m args below meth c A ls hF hr hk hnm hW hl
  have hx := hF.1
  have hb := hF.2.1
  have hl : lv_has ls 2 [(0, .ref (a 55))] := hl
  obtain ⟨H, hH⟩ : ∃ z, z = s.heap := ⟨_, rfl⟩
  rw [← hH] at hW ⊢
  have J73 : ∀ (n73 : Nat) (x1 : Int32) (M : Mem) (H : Heap) (locs : List Loc) (ls : Array Slot), f_X10_isAllowed_73 n73 x1 M = some (r0, M0) → Wd K A s (wC K a d M) H locs → lv_has ls 2 [(0, .ref (a 55)), (1, .int x1)] → W p l e ({ frames := 4, cells := 0, slots := 0, locals := 108 } : Room) s m args below meth c H locs 0 0 (EndI K A (fun _ => wC K a d M0) (bI r0) below args s ({ frames := 4, cells := 0, slots := 0, locals := 108 } : Room)) (F0 m 73 ls []) := by
    intro n73
    induction n73 with
    | zero => intro x1 M H locs ls h; exact absurd h (by simp [f_X10_isAllowed_73])
    | succ n73 ih73 =>
      have J118 : ∀ (M : Mem) (H : Heap) (locs : List Loc) (ls : Array Slot), f_X10_isAllowed_118 M = some (r0, M0) → Wd K A s (wC K a d M) H locs → lv_has ls 2 [(0, .ref (a 55))] → W p l e ({ frames := 4, cells := 0, slots := 0, locals := 108 } : Room) s m args below meth c H locs 0 0 (EndI K A (fun _ => wC K a d M0) (bI r0) below args s ({ frames := 4, cells := 0, slots := 0, locals := 108 } : Room)) (F0 m 118 ls []) := by
        have J133 : ∀ (M : Mem) (H : Heap) (locs : List Loc) (ls : Array Slot), f_X10_isAllowed_133 M = some (r0, M0) → Wd K A s (wC K a d M) H locs → lv_has ls 2 [(0, .ref (a 55))] → W p l e ({ frames := 4, cells := 0, slots := 0, locals := 108 } : Room) s m args below meth c H locs 0 0 (EndI K A (fun _ => wC K a d M0) (bI r0) below args s ({ frames := 4, cells := 0, slots := 0, locals := 108 } : Room)) (F0 m 133 ls []) := by
          intro M H locs ls h hW hl
          unfold f_X10_isAllowed_133 at h
          refine lv_aload_n hx hb dX10_isAllowed_133 rfl (lv_at hl 0 rfl) ?_
          refine lv_iconst (v := 1) hx hb dX10_isAllowed_134 (by decide) ?_
          refine s_X10_45 (x := true) hF hW dX10_isAllowed_135 (fun H locs hW => ?_)
          refine lv_aload_n hx hb dX10_isAllowed_138 rfl (lv_at hl 0 rfl) ?_
          refine g_X10_39 hF hW dX10_isAllowed_139 ?_
          refine lv_if_ge (tgt := 149) hx hb dX10_isAllowed_142 (by decide) (fun q24 => ?_) (fun q24 => ?_)
          · have h := ifp q24 h
            refine lv_iconst (v := 0) hx hb dX10_isAllowed_149 (by decide) ?_
            obtain ⟨rfl, rfl⟩ := Prod.mk.inj (Option.some.inj h)
            exact rt_i hF hr hk (bI_n false) (fun _ => 0) hW rfl dX10_isAllowed_150
          · have h := ifn q24 h
            refine lv_iconst (v := 1) hx hb dX10_isAllowed_145 (by decide) ?_
            refine lv_goto (tgt := 150) hx hb dX10_isAllowed_146 (by decide) ?_
            obtain ⟨rfl, rfl⟩ := Prod.mk.inj (Option.some.inj h)
            exact rt_i hF hr hk (bI_n true) (fun _ => 0) hW rfl dX10_isAllowed_150
        intro M H locs ls h hW hl
        unfold f_X10_isAllowed_118 at h
        refine lv_aload_n hx hb dX10_isAllowed_118 rfl (lv_at hl 0 rfl) ?_
        refine g_X10_39 hF hW dX10_isAllowed_119 ?_
        refine lv_if_lt (tgt := 133) hx hb dX10_isAllowed_122 (by decide) (fun q20 => ?_) (fun q20 => ?_)
        · have h := ifp q20 h
          exact J133 _ _ _ _ h hW (lv_sub hl [0] rfl)
        · have h := ifn q20 h
          refine lv_aload_n hx hb dX10_isAllowed_125 rfl (lv_at hl 0 rfl) ?_
          refine lv_aload_n hx hb dX10_isAllowed_126 rfl (lv_at hl 0 rfl) ?_
          refine g_X10_39 hF hW dX10_isAllowed_127 ?_
          obtain ⟨M22, hc23, h⟩ := bm_some h
          refine cV_v (ci := 10) (q0 := 55) (rest := []) hF hW mw_X10_150 (c_X10_findPartner l K a d hc23) ⟨Nat.le_of_ble_eq_true rfl, Nat.le_of_ble_eq_true rfl⟩ rfl rfl (pC_55 K a d _) rfl hl.1 rfl (Nat.le_of_ble_eq_true rfl) dX10_isAllowed_130 ⟨Nat.le_of_ble_eq_true rfl, Nat.le_of_ble_eq_true rfl⟩ (fun _ H locs hW => ?_)
          exact J133 _ _ _ _ h hW (lv_sub hl [0] rfl)
      intro x1 M H locs ls h hW hl
      rw [f_X10_isAllowed_73] at h
      refine lv_iload_n hx hb dX10_isAllowed_73 rfl (lv_at hl 1 rfl) ?_
      refine lv_aload_n hx hb dX10_isAllowed_74 rfl (lv_at hl 0 rfl) ?_
      refine g_X10_61 hF hW dX10_isAllowed_75 ?_
      refine g_X10_69 hF hW dX10_isAllowed_78 ?_
      refine lv_icmp_ge (tgt := 118) hx hb dX10_isAllowed_81 (by decide) (fun q11 => ?_) (fun q11 => ?_)
      · have h := ifp q11 h
        exact J118 _ _ _ _ h hW (lv_sub hl [0] rfl)
      · have h := ifn q11 h
        refine lv_aload_n hx hb dX10_isAllowed_84 rfl (lv_at hl 0 rfl) ?_
        refine g_X10_39 hF hW dX10_isAllowed_85 ?_
        refine lv_if_ge (tgt := 118) hx hb dX10_isAllowed_88 (by decide) (fun q12 => ?_) (fun q12 => ?_)
        · have h := ifp q12 h
          exact J118 _ _ _ _ h hW (lv_sub hl [0] rfl)
        · have h := ifn q12 h
          refine lv_aload_n hx hb dX10_isAllowed_91 rfl (lv_at hl 0 rfl) ?_
          refine lv_iload_n hx hb dX10_isAllowed_92 rfl (lv_at hl 1 rfl) ?_
          obtain ⟨r13, hc15, h⟩ := bq_some h
          refine cV_i (ci := 10) (q0 := 55) (rest := []) hF hW mw_X10_143 (c_X10_isEarly l K a d hc15) ⟨Nat.le_of_ble_eq_true rfl, Nat.le_of_ble_eq_true rfl⟩ rfl rfl (pC_55 K a d _) rfl hl.1 rfl (Nat.le_of_ble_eq_true rfl) dX10_isAllowed_93 ⟨Nat.le_of_ble_eq_true rfl, Nat.le_of_ble_eq_true rfl⟩ (fun _ H locs hW => ?_)
          refine lz_eq (tgt := 107) hx hb dX10_isAllowed_96 (by decide) (fun q16 => ?_) (fun q16 => ?_)
          · have h := ifn q16 h
            refine lv_aload_n hx hb dX10_isAllowed_107 rfl (lv_at hl 0 rfl) ?_
            refine lv_iload_n hx hb dX10_isAllowed_108 rfl (lv_at hl 1 rfl) ?_
            obtain ⟨M18, hc19, h⟩ := bm_some h
            refine cV_v (ci := 10) (q0 := 55) (rest := []) hF hW mw_X10_147 (c_X10_remember l K a d hc19) ⟨Nat.le_of_ble_eq_true rfl, Nat.le_of_ble_eq_true rfl⟩ rfl rfl (pC_55 K a d _) rfl hl.1 rfl (Nat.le_of_ble_eq_true rfl) dX10_isAllowed_109 ⟨Nat.le_of_ble_eq_true rfl, Nat.le_of_ble_eq_true rfl⟩ (fun _ H locs hW => ?_)
            refine lv_iinc (v := (x1 + 1)) (lv' := [(1, .int (x1 + 1)), (0, .ref (a 55))]) hx hb dX10_isAllowed_112 hl (k := 1) rfl rfl (by decide) rfl (fun ls hl => ?_)
            refine lv_goto (tgt := 73) hx hb dX10_isAllowed_115 (by decide) ?_
            exact ih73 (x1 + 1) _ _ _ _ h hW (lv_sub hl [1, 0] rfl)
          · have h := ifp q16 h
            refine lv_aload_n hx hb dX10_isAllowed_99 rfl (lv_at hl 0 rfl) ?_
            refine lv_iload_n hx hb dX10_isAllowed_100 rfl (lv_at hl 1 rfl) ?_
            refine s_X10_39 (x := x1) hF hW dX10_isAllowed_101 (fun H locs hW => ?_)
            refine lv_goto (tgt := 112) hx hb dX10_isAllowed_104 (by decide) ?_
            refine lv_iinc (v := (x1 + 1)) (lv' := [(1, .int (x1 + 1)), (0, .ref (a 55))]) hx hb dX10_isAllowed_112 hl (k := 1) rfl rfl (by decide) rfl (fun ls hl => ?_)
            refine lv_goto (tgt := 73) hx hb dX10_isAllowed_115 (by decide) ?_
            exact ih73 (x1 + 1) _ _ _ _ h hW (lv_sub hl [1, 0] rfl)
  unfold f_X10_isAllowed at h
  refine lv_aload_n hx hb dX10_isAllowed_0 rfl (lv_at hl 0 rfl) ?_
  refine g_X10_45 hF hW dX10_isAllowed_1 ?_
  refine lz_eq (tgt := 20) hx hb dX10_isAllowed_4 (by decide) (fun q1 => ?_) (fun q1 => ?_)
  · have h := ifn q1 h
    refine lv_aload_n hx hb dX10_isAllowed_20 rfl (lv_at hl 0 rfl) ?_
    obtain ⟨M3, hc4, h⟩ := bm_some h
    refine cV_v (ci := 10) (q0 := 55) (rest := []) hF hW mw_X10_126 (c_X10_arrange l K a d hc4) ⟨Nat.le_of_ble_eq_true rfl, Nat.le_of_ble_eq_true rfl⟩ rfl rfl (pC_55 K a d _) rfl hl.1 rfl (Nat.le_of_ble_eq_true rfl) dX10_isAllowed_21 ⟨Nat.le_of_ble_eq_true rfl, Nat.le_of_ble_eq_true rfl⟩ (fun _ H locs hW => ?_)
    refine lv_aload_n hx hb dX10_isAllowed_24 rfl (lv_at hl 0 rfl) ?_
    refine g_X10_65 hF hW dX10_isAllowed_25 ?_
    obtain ⟨M6, hc7, h⟩ := bm_some h
    refine cV_v (ci := 9) (q0 := 38) (rest := []) hF hW mw_X10_129 (c_X9_refresh l K a d hc7) ⟨Nat.le_of_ble_eq_true rfl, Nat.le_of_ble_eq_true rfl⟩ rfl rfl (pC_38 K a d _) rfl hl.1 rfl (Nat.le_of_ble_eq_true rfl) dX10_isAllowed_28 ⟨Nat.le_of_ble_eq_true rfl, Nat.le_of_ble_eq_true rfl⟩ (fun _ H locs hW => ?_)
    refine lv_aload_n hx hb dX10_isAllowed_31 rfl (lv_at hl 0 rfl) ?_
    refine lv_bipush (v := (-9)) hx hb dX10_isAllowed_32 (by decide) ?_
    refine s_X10_39 (x := (-9)) hF hW dX10_isAllowed_34 (fun H locs hW => ?_)
    refine lv_aload_n hx hb dX10_isAllowed_37 rfl (lv_at hl 0 rfl) ?_
    refine g_X10_29 hF hW dX10_isAllowed_38 ?_
    refine lv_iconst (v := 0) hx hb dX10_isAllowed_41 (by decide) ?_
    refine lv_aload_n hx hb dX10_isAllowed_42 rfl (lv_at hl 0 rfl) ?_
    refine g_X10_65 hF hW dX10_isAllowed_43 ?_
    refine g_X10_134 hF hW dX10_isAllowed_46 ?_
    refine lv_bipush (v := (-9)) hx hb dX10_isAllowed_49 (by decide) ?_
    obtain ⟨q8, h⟩ := cf_some h
    refine cS_v (rest := []) hF hW mw_X10_137 (c_fillI_r l K (pC_60 K a d _) q8 (by decide)) ⟨Nat.le_of_ble_eq_true rfl, Nat.le_of_ble_eq_true rfl⟩ rfl hl.1 rfl (Nat.le_of_ble_eq_true rfl) dX10_isAllowed_51 ⟨Nat.le_of_ble_eq_true rfl, Nat.le_of_ble_eq_true rfl⟩ (fun _ H locs hW => ?_)
    have hW : Wd K A s (wC K a d (fI (sI M6 119 0 (-9)) 60 (0 : Int32).toNatClampNeg ((sI M6 119 0 (-9)).1 114 0).toNatClampNeg (-9))) H locs := hW
    refine lv_aload_n hx hb dX10_isAllowed_54 rfl (lv_at hl 0 rfl) ?_
    refine g_X10_32 hF hW dX10_isAllowed_55 ?_
    refine lv_iconst (v := 0) hx hb dX10_isAllowed_58 (by decide) ?_
    refine lv_aload_n hx hb dX10_isAllowed_59 rfl (lv_at hl 0 rfl) ?_
    refine g_X10_65 hF hW dX10_isAllowed_60 ?_
    refine g_X10_134 hF hW dX10_isAllowed_63 ?_
    refine lv_bipush (v := (-9)) hx hb dX10_isAllowed_66 (by decide) ?_
    obtain ⟨q9, h⟩ := cf_some h
    refine cS_v (rest := []) hF hW mw_X10_137 (c_fillI_r l K (pC_61 K a d _) q9 (by decide)) ⟨Nat.le_of_ble_eq_true rfl, Nat.le_of_ble_eq_true rfl⟩ rfl hl.1 rfl (Nat.le_of_ble_eq_true rfl) dX10_isAllowed_68 ⟨Nat.le_of_ble_eq_true rfl, Nat.le_of_ble_eq_true rfl⟩ (fun _ H locs hW => ?_)
    have hW : Wd K A s (wC K a d (fI (fI (sI M6 119 0 (-9)) 60 (0 : Int32).toNatClampNeg ((sI M6 119 0 (-9)).1 114 0).toNatClampNeg (-9)) 61 (0 : Int32).toNatClampNeg ((fI (sI M6 119 0 (-9)) 60 (0 : Int32).toNatClampNeg ((sI M6 119 0 (-9)).1 114 0).toNatClampNeg (-9)).1 114 0).toNatClampNeg (-9))) H locs := hW
    refine lv_iconst (v := 0) hx hb dX10_isAllowed_71 (by decide) ?_
    refine lv_istore_n (lv' := [(1, .int 0), (0, .ref (a 55))]) hx hb dX10_isAllowed_72 rfl hl (by decide) rfl (fun ls hl => ?_)
    exact J73 100000 0 _ _ _ _ h hW (lv_sub hl [1, 0] rfl)
  · have h := ifp q1 h
    refine lv_aload_n hx hb dX10_isAllowed_7 rfl (lv_at hl 0 rfl) ?_
    refine g_X10_39 hF hW dX10_isAllowed_8 ?_
    refine lv_if_ge (tgt := 18) hx hb dX10_isAllowed_11 (by decide) (fun q10 => ?_) (fun q10 => ?_)
    · have h := ifp q10 h
      refine lv_iconst (v := 0) hx hb dX10_isAllowed_18 (by decide) ?_
      obtain ⟨rfl, rfl⟩ := Prod.mk.inj (Option.some.inj h)
      exact rt_i hF hr hk (bI_n false) (fun _ => 0) hW rfl dX10_isAllowed_19
    · have h := ifn q10 h
      refine lv_iconst (v := 1) hx hb dX10_isAllowed_14 (by decide) ?_
      refine lv_goto (tgt := 19) hx hb dX10_isAllowed_15 (by decide) ?_
      obtain ⟨rfl, rfl⟩ := Prod.mk.inj (Option.some.inj h)
      exact rt_i hF hr hk (bI_n true) (fun _ => 0) hW rfl dX10_isAllowed_19
