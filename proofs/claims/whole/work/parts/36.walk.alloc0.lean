set_option maxRecDepth 100000 in
set_option maxHeartbeats 1000000 in
theorem c_X3_keep (l : Launch) (K : Kx) (a d : Nat → Nat) {M M0 : Mem}   (h : f_X3_keep M = some M0) : CMv l yX3_keep cX3_keep 3 ({ frames := 2, cells := 3, slots := 1358, locals := 82 } : Room) K [.ref (a 26)] (wC K a d M) (fun d => wC K a d M0) := by
  refine cs_v (by decide +kernel) (Nat.le_of_ble_eq_true rfl) ?_
  intro p e s m args below meth c A ls hF hr hk hnm hW hl
  have hx := hF.1
  have hb := hF.2.1
  have hl : lv_has ls 3 [(0, .ref (a 26))] := hl
  obtain ⟨H, hH⟩ : ∃ z, z = s.heap := ⟨_, rfl⟩
  rw [← hH] at hW ⊢
  have J39 : ∀ (x2 : Nat) (M : Mem) (d : Nat → Nat) (H : Heap) (locs : List Loc) (ls : Array Slot), f_X3_keep_39 x2 M = some M0 → Wd K A s (wC K a d M) H locs → lv_has ls 3 [(0, .ref (a 26)), (2, .ref (d (6 * x2 + 3)))] → W p l e ({ frames := 2, cells := 3, slots := 1358, locals := 82 } : Room) s m args below meth c H locs 3 1358 (EndV K A (fun d => wC K a d M0) below args s ({ frames := 2, cells := 3, slots := 1358, locals := 82 } : Room)) (F0 m 39 ls []) := by
    intro x2 M d H locs ls h hW hl
    unfold f_X3_keep_39 at h
    refine lv_aload_n hx hb dX3_keep_39 rfl (lv_at hl 1 rfl) ?_
    refine lv_aload_n hx hb dX3_keep_40 rfl (lv_at hl 0 rfl) ?_
    refine g_X3_12 hF hW dX3_keep_41 ?_
    refine lv_aload_n hx hb dX3_keep_44 rfl (lv_at hl 0 rfl) ?_
    refine g_X3_32 hF hW dX3_keep_45 ?_
    refine g_X3_36 hF hW dX3_keep_48 ?_
    obtain ⟨hi8, h⟩ := cN_some h
    obtain ⟨M10, hc11, h⟩ := bm_some h
    refine cV_v (ci := 7) (rest := []) hF hW mw_X3_62 (c_X7_take_kn l K a d hi8 hc11) ⟨Nat.le_of_ble_eq_true rfl, Nat.le_of_ble_eq_true rfl⟩ rfl rfl (pK_0 K a d _ _ hi8) rfl hl.1 rfl (Nat.le_of_ble_eq_true rfl) dX3_keep_51 ⟨Nat.le_of_ble_eq_true rfl, Nat.le_of_ble_eq_true rfl⟩ (fun _ H locs hW => ?_)
    refine lv_aload_n hx hb dX3_keep_54 rfl (lv_at hl 0 rfl) ?_
    refine g_X3_29 hF hW dX3_keep_55 ?_
    refine lv_bipush (v := 20) hx hb dX3_keep_58 (by decide) ?_
    refine lv_icmp_ge (tgt := 76) hx hb dX3_keep_60 (by decide) (fun q12 => ?_) (fun q12 => ?_)
    · have h := ifp q12 h
      refine lv_aload_n hx hb dX3_keep_76 rfl (lv_at hl 0 rfl) ?_
      refine lv_aload_n hx hb dX3_keep_77 rfl (lv_at hl 0 rfl) ?_
      refine g_X3_25 hF hW dX3_keep_78 ?_
      refine lv_iconst (v := 1) hx hb dX3_keep_81 (by decide) ?_
      refine lv_iadd hx hb dX3_keep_82 ?_
      refine lv_bipush (v := 20) hx hb dX3_keep_83 (by decide) ?_
      obtain ⟨q13, h⟩ := nzI_some h
      refine lv_irem hx hb dX3_keep_85 q13 ?_
      refine s_X3_25 (x := (((M10.1 108 0) + 1) - ((M10.1 108 0) + 1) / 20 * 20)) hF hW dX3_keep_86 (fun H locs hW => ?_)
      obtain rfl := Option.some.inj h
      refine W.widen (k := 3) (n := 1358) (Nat.le_of_ble_eq_true rfl) (Nat.le_of_ble_eq_true rfl) ?_
      exact rt_v hF hr hk d hW dX3_keep_89
    · have h := ifn q12 h
      refine lv_aload_n hx hb dX3_keep_63 rfl (lv_at hl 0 rfl) ?_
      refine lv_dup hx hb dX3_keep_64 rfl ?_
      refine g_X3_29 hF hW dX3_keep_65 ?_
      refine lv_iconst (v := 1) hx hb dX3_keep_68 (by decide) ?_
      refine lv_iadd hx hb dX3_keep_69 ?_
      refine s_X3_29 (x := ((M10.1 109 0) + 1)) hF hW dX3_keep_70 (fun H locs hW => ?_)
      refine lv_goto (tgt := 89) hx hb dX3_keep_73 (by decide) ?_
      obtain rfl := Option.some.inj h
      refine W.widen (k := 3) (n := 1358) (Nat.le_of_ble_eq_true rfl) (Nat.le_of_ble_eq_true rfl) ?_
      exact rt_v hF hr hk d hW dX3_keep_89
  unfold f_X3_keep at h
  refine lv_aload_n hx hb dX3_keep_0 rfl (lv_at hl 0 rfl) ?_
  refine g_X3_25 hF hW dX3_keep_1 ?_
  refine lv_aload_n hx hb dX3_keep_4 rfl (lv_at hl 0 rfl) ?_
  refine g_X3_29 hF hW dX3_keep_5 ?_
  refine lv_iadd hx hb dX3_keep_8 ?_
  refine lv_bipush (v := 20) hx hb dX3_keep_9 (by decide) ?_
  obtain ⟨q1, h⟩ := nzI_some h
  refine lv_irem hx hb dX3_keep_11 q1 ?_
  refine lv_istore_n (lv' := [(1, .int (((M.1 108 0) + (M.1 109 0)) - ((M.1 108 0) + (M.1 109 0)) / 20 * 20)), (0, .ref (a 26))]) hx hb dX3_keep_12 rfl hl (by decide) rfl (fun ls hl => ?_)
  refine lv_aload_n hx hb dX3_keep_13 rfl (lv_at hl 1 rfl) ?_
  refine g_X3_21 hF hW dX3_keep_14 ?_
  refine lv_iload_n hx hb dX3_keep_17 rfl (lv_at hl 0 rfl) ?_
  obtain ⟨q2, h⟩ := ck_some h
  refine w_qld2 (o := (M.2.2.1 33 (((M.1 108 0) + (M.1 109 0)) - ((M.1 108 0) + (M.1 109 0)) / 20 * 20).toNatClampNeg)) (g := fun i => d (6 * i + 3)) 4 hF hW (pC_33 K a d _) rfl q2 rfl dX3_keep_18 (fun q4 => ?_) (fun j3 q4 => ?_)
  · have h := oq_none q4 h
    refine lv_astore_nN (lv' := [(2, .null), (1, .int (((M.1 108 0) + (M.1 109 0)) - ((M.1 108 0) + (M.1 109 0)) / 20 * 20)), (0, .ref (a 26))]) hx hb dX3_keep_19 rfl hl (by decide) rfl (fun ls hl => ?_)
    refine lv_aload_nN hx hb dX3_keep_20 rfl (lv_at hl 0 rfl) ?_
    refine lv_ifnonnullN hx hb dX3_keep_21 ?_
    obtain ⟨q5, h⟩ := cP_some h
    refine new_sheet (rest := []) hF hW q5 hl.1 (Nat.le_of_ble_eq_true rfl) ⟨Nat.le_of_ble_eq_true rfl, Nat.le_of_ble_eq_true rfl⟩ (Nat.le_of_ble_eq_true rfl) (Nat.le_of_ble_eq_true rfl) dX3_keep_24 dX3_keep_27 dX3_keep_28 (fun d H locs hW => ?_)
    have hi6 : (M.2.2.2.2.2 1) < (nKt M).2.2.2.2.2 1 := Nat.lt_succ_self _
    refine lv_astore_n (lv' := [(2, .ref (d (6 * (M.2.2.2.2.2 1) + 3))), (1, .int (((M.1 108 0) + (M.1 109 0)) - ((M.1 108 0) + (M.1 109 0)) / 20 * 20)), (0, .ref (a 26))]) hx hb dX3_keep_31 rfl hl (by decide) rfl (fun ls hl => ?_)
    refine lv_aload_n hx hb dX3_keep_32 rfl (lv_at hl 2 rfl) ?_
    refine g_X3_21 hF hW dX3_keep_33 ?_
    refine lv_iload_n hx hb dX3_keep_36 rfl (lv_at hl 1 rfl) ?_
    refine lv_aload_n hx hb dX3_keep_37 rfl (lv_at hl 0 rfl) ?_
    obtain ⟨q7, h⟩ := ck_some h
    refine w_qst (ci := 7) (t0 := 4) hF hW (pC_33 K a d _) rfl (pK_0 K a d _ _ hi6) rfl q7 (uQ_33 K a d _ _ _) dX3_keep_38 (fun H locs hW => ?_)
    refine W.widen (k := 3) (n := 1358) (Nat.le_of_ble_eq_true rfl) (Nat.le_of_ble_eq_true rfl) ?_
    exact J39 (M.2.2.2.2.2 1) _ _ _ _ _ h hW (lv_sub hl [2, 0] rfl)
  · have h := oq_some q4 h
    refine lv_astore_n (lv' := [(2, .ref (d (6 * j3 + 3))), (1, .int (((M.1 108 0) + (M.1 109 0)) - ((M.1 108 0) + (M.1 109 0)) / 20 * 20)), (0, .ref (a 26))]) hx hb dX3_keep_19 rfl hl (by decide) rfl (fun ls hl => ?_)
    refine lv_aload_n hx hb dX3_keep_20 rfl (lv_at hl 0 rfl) ?_
    refine lv_ifnonnull (tgt := 39) hx hb dX3_keep_21 (by decide) ?_
    refine W.widen (k := 3) (n := 1358) (Nat.le_of_ble_eq_true rfl) (Nat.le_of_ble_eq_true rfl) ?_
    exact J39 j3 _ _ _ _ _ h hW (lv_sub hl [2, 0] rfl)
set_option maxRecDepth 100000 in
set_option maxHeartbeats 1000000 in
theorem c_X11_array (l : Launch) (K : Kx) (a d : Nat → Nat) {M M0 : Mem} {x1 : Int32} {x2 : Int32} {r0 : Int32} (h : f_X11_array M x1 x2 = some (r0, M0)) : CMi l yX11_array cX11_array 3 (some .int) ({ frames := 2, cells := 3, slots := 423, locals := 62 } : Room) K [.ref (a 0), .int x1, .int x2] (wC K a d M) (fun d => wC K a d M0) r0 := by
  refine cs_i (by decide +kernel) (Nat.le_of_ble_eq_true rfl) ?_
  intro p e s m args below meth c A ls hF hr hk hnm hW hl
  have hx := hF.1
  have hb := hF.2.1
  have hl : lv_has ls 3 [(0, .ref (a 0)), (1, .int x1), (2, .int x2)] := hl
  obtain ⟨H, hH⟩ : ∃ z, z = s.heap := ⟨_, rfl⟩
  rw [← hH] at hW ⊢
  unfold f_X11_array at h
  refine lv_iload_n hx hb dX11_array_0 rfl (lv_at hl 1 rfl) ?_
  refine lv_iconst (v := 0) hx hb dX11_array_1 (by decide) ?_
  refine lv_iconst (v := 3) hx hb dX11_array_2 (by decide) ?_
  obtain ⟨r1, hc3, h⟩ := bq_some h
  refine cS_i (rest := []) hF hW mw_X11_113 (c_X11_within l K hc3) ⟨Nat.le_of_ble_eq_true rfl, Nat.le_of_ble_eq_true rfl⟩ rfl hl.1 rfl (Nat.le_of_ble_eq_true rfl) dX11_array_3 ⟨Nat.le_of_ble_eq_true rfl, Nat.le_of_ble_eq_true rfl⟩ (fun _ H locs hW => ?_)
  refine lz_eq (tgt := 15) hx hb dX11_array_6 (by decide) (fun q4 => ?_) (fun q4 => ?_)
  · have h := ifn q4 h
    refine lv_iconst (v := (-1)) hx hb dX11_array_15 (by decide) ?_
    obtain ⟨rfl, rfl⟩ := Prod.mk.inj (Option.some.inj h)
    refine W.widen (k := 3) (n := 423) (Nat.le_of_ble_eq_true rfl) (Nat.le_of_ble_eq_true rfl) ?_
    exact rt_i hF hr hk rfl d hW rfl dX11_array_16
  · have h := ifp q4 h
    refine lv_iload_n hx hb dX11_array_9 rfl (lv_at hl 2 rfl) ?_
    refine lv_bipush (v := 20) hx hb dX11_array_10 (by decide) ?_
    refine lv_icmp_le (tgt := 17) hx hb dX11_array_12 (by decide) (fun q5 => ?_) (fun q5 => ?_)
    · have h := ifp q5 h
      refine lv_aload_n hx hb dX11_array_17 rfl (lv_at hl 0 rfl) ?_
      refine g_X11_36 hF hW dX11_array_18 ?_
      refine lv_bipush (v := 8) hx hb dX11_array_21 (by decide) ?_
      refine lv_icmp_lt (tgt := 29) hx hb dX11_array_23 (by decide) (fun q6 => ?_) (fun q6 => ?_)
      · have h := ifp q6 h
        refine lv_iload_n hx hb dX11_array_29 rfl (lv_at hl 2 rfl) ?_
        refine lv_if_ge (tgt := 39) hx hb dX11_array_30 (by decide) (fun q7 => ?_) (fun q7 => ?_)
        · have h := ifp q7 h
          refine lv_aload_n hx hb dX11_array_39 rfl (lv_at hl 0 rfl) ?_
          refine g_X11_32 hF hW dX11_array_40 ?_
          refine lv_aload_n hx hb dX11_array_43 rfl (lv_at hl 0 rfl) ?_
          refine g_X11_36 hF hW dX11_array_44 ?_
          obtain ⟨q10, h⟩ := ck_some h
          obtain ⟨q8, h⟩ := cP_some h
          refine new_rack (N := x2.toNatClampNeg) (rest := [.int (M.1 100 0), .ref (a 25)]) hF hW q8 (in_le q10) (lv_at hl 1 rfl) (by rw [← nI_back q10 (by decide)]; exact lv_at hl 2 rfl) hl.1 (Nat.le_of_ble_eq_true rfl) ⟨Nat.le_of_ble_eq_true rfl, Nat.le_of_ble_eq_true rfl⟩ (Nat.le_of_ble_eq_true rfl) (Nat.le_of_ble_eq_true rfl) dX11_array_47 dX11_array_50 dX11_array_51 dX11_array_52 dX11_array_53 (fun d H locs hW => ?_)
          have hi9 : (M.2.2.2.2.2 0) < (nRk M x1 x2.toNatClampNeg).2.2.2.2.2 0 := Nat.lt_succ_self _
          obtain ⟨q11, h⟩ := ck_some h
          refine w_qst (ci := 5) (t0 := 3) hF hW (pC_25 K a d _) rfl (pR_0 K a d _ _ hi9) rfl q11 (uQ_25 K a d _ _ _) dX11_array_56 (fun H locs hW => ?_)
          refine lv_aload_n hx hb dX11_array_57 rfl (lv_at hl 0 rfl) ?_
          refine lv_dup hx hb dX11_array_58 rfl ?_
          refine g_X11_36 hF hW dX11_array_59 ?_
          refine lv_iconst (v := 1) hx hb dX11_array_62 (by decide) ?_
          refine lv_iadd hx hb dX11_array_63 ?_
          refine s_X11_36 (x := (((sQ (nRk M x1 x2.toNatClampNeg) 25 (M.1 100 0).toNatClampNeg (some (M.2.2.2.2.2 0))).1 100 0) + 1)) hF hW dX11_array_64 (fun H locs hW => ?_)
          refine lv_aload_n hx hb dX11_array_67 rfl (lv_at hl 0 rfl) ?_
          refine g_X11_36 hF hW dX11_array_68 ?_
          refine lv_iconst (v := 1) hx hb dX11_array_71 (by decide) ?_
          refine lv_isub hx hb dX11_array_72 ?_
          obtain ⟨rfl, rfl⟩ := Prod.mk.inj (Option.some.inj h)
          refine W.widen (k := 3) (n := 423) (Nat.le_of_ble_eq_true rfl) (Nat.le_of_ble_eq_true rfl) ?_
          exact rt_i hF hr hk rfl d hW rfl dX11_array_73
        · have h := ifn q7 h
          refine lv_aload_n hx hb dX11_array_33 rfl (lv_at hl 0 rfl) ?_
          refine lv_iconst (v := 5) hx hb dX11_array_34 (by decide) ?_
          obtain ⟨r12, M13, hc14, h⟩ := bd_some h
          refine cV_i (ci := 11) (q0 := 0) (rest := []) hF hW mw_X11_163 (c_X11_meet l K a d hc14) ⟨Nat.le_of_ble_eq_true rfl, Nat.le_of_ble_eq_true rfl⟩ rfl rfl (pC_0 K a d _) rfl hl.1 rfl (Nat.le_of_ble_eq_true rfl) dX11_array_35 ⟨Nat.le_of_ble_eq_true rfl, Nat.le_of_ble_eq_true rfl⟩ (fun _ H locs hW => ?_)
          obtain ⟨rfl, rfl⟩ := Prod.mk.inj (Option.some.inj h)
          refine W.widen (k := 3) (n := 423) (Nat.le_of_ble_eq_true rfl) (Nat.le_of_ble_eq_true rfl) ?_
          exact rt_i hF hr hk rfl d hW rfl dX11_array_38
      · have h := ifn q6 h
        refine lv_bipush (v := (-2)) hx hb dX11_array_26 (by decide) ?_
        obtain ⟨rfl, rfl⟩ := Prod.mk.inj (Option.some.inj h)
        refine W.widen (k := 3) (n := 423) (Nat.le_of_ble_eq_true rfl) (Nat.le_of_ble_eq_true rfl) ?_
        exact rt_i hF hr hk rfl d hW rfl dX11_array_28
    · have h := ifn q5 h
      refine lv_iconst (v := (-1)) hx hb dX11_array_15 (by decide) ?_
      obtain ⟨rfl, rfl⟩ := Prod.mk.inj (Option.some.inj h)
      refine W.widen (k := 3) (n := 423) (Nat.le_of_ble_eq_true rfl) (Nat.le_of_ble_eq_true rfl) ?_
      exact rt_i hF hr hk rfl d hW rfl dX11_array_16
set_option maxRecDepth 100000 in
set_option maxHeartbeats 1000000 in
theorem c_X11_swap (l : Launch) (K : Kx) (a d : Nat → Nat) {M M0 : Mem} {x1 : Int32} {x2 : Int32} {r0 : Int32} (h : f_X11_swap M x1 x2 = some (r0, M0)) : CMi l yX11_swap cX11_swap 3 (some .int) ({ frames := 3, cells := 3, slots := 1358, locals := 104 } : Room) K [.ref (a 0), .int x1, .int x2] (wC K a d M) (fun d => wC K a d M0) r0 := by
  refine cs_i (by decide +kernel) (Nat.le_of_ble_eq_true rfl) ?_
  intro p e s m args below meth c A ls hF hr hk hnm hW hl
  have hx := hF.1
  have hb := hF.2.1
  have hl : lv_has ls 3 [(0, .ref (a 0)), (1, .int x1), (2, .int x2)] := hl
  obtain ⟨H, hH⟩ : ∃ z, z = s.heap := ⟨_, rfl⟩
  rw [← hH] at hW ⊢
  unfold f_X11_swap at h
  refine lv_aload_n hx hb dX11_swap_0 rfl (lv_at hl 0 rfl) ?_
  refine g_X11_19 hF hW dX11_swap_1 ?_
  refine lv_iload_n hx hb dX11_swap_4 rfl (lv_at hl 1 rfl) ?_
  obtain ⟨r1, hc3, h⟩ := bq_some h
  refine cV_i (ci := 2) (q0 := 5) (rest := []) hF hW mw_X11_152 (c_X2_known l K a d hc3) ⟨Nat.le_of_ble_eq_true rfl, Nat.le_of_ble_eq_true rfl⟩ rfl rfl (pC_5 K a d _) rfl hl.1 rfl (Nat.le_of_ble_eq_true rfl) dX11_swap_5 ⟨Nat.le_of_ble_eq_true rfl, Nat.le_of_ble_eq_true rfl⟩ (fun _ H locs hW => ?_)
  refine lz_ne (tgt := 13) hx hb dX11_swap_8 (by decide) (fun q4 => ?_) (fun q4 => ?_)
  · have h := ifp q4 h
    refine lv_aload_n hx hb dX11_swap_13 rfl (lv_at hl 0 rfl) ?_
    refine g_X11_19 hF hW dX11_swap_14 ?_
    refine lv_iload_n hx hb dX11_swap_17 rfl (lv_at hl 1 rfl) ?_
    obtain ⟨r5, hc7, h⟩ := bq_some h
    refine cV_i (ci := 2) (q0 := 5) (rest := []) hF hW mw_X11_289 (c_X2_isLoop l K a d hc7) ⟨Nat.le_of_ble_eq_true rfl, Nat.le_of_ble_eq_true rfl⟩ rfl rfl (pC_5 K a d _) rfl hl.1 rfl (Nat.le_of_ble_eq_true rfl) dX11_swap_18 ⟨Nat.le_of_ble_eq_true rfl, Nat.le_of_ble_eq_true rfl⟩ (fun _ H locs hW => ?_)
    refine lz_ne (tgt := 30) hx hb dX11_swap_21 (by decide) (fun q8 => ?_) (fun q8 => ?_)
    · have h := ifp q8 h
      refine lv_iload_n hx hb dX11_swap_30 rfl (lv_at hl 2 rfl) ?_
      refine lv_aload_n hx hb dX11_swap_31 rfl (lv_at hl 0 rfl) ?_
      refine g_X11_19 hF hW dX11_swap_32 ?_
      refine g_X11_166 hF hW dX11_swap_35 ?_
      refine lv_iload_n hx hb dX11_swap_38 rfl (lv_at hl 1 rfl) ?_
      obtain ⟨q9, h⟩ := ck_some h
      refine w_ild hF hW (pC_11 K a d _) q9 dX11_swap_39 ?_
      refine lv_iconst (v := 1) hx hb dX11_swap_40 (by decide) ?_
      refine lv_iadd hx hb dX11_swap_41 ?_
      refine lv_iconst (v := 3) hx hb dX11_swap_42 (by decide) ?_
      obtain ⟨r10, hc12, h⟩ := bq_some h
      refine cS_i (rest := []) hF hW mw_X11_113 (c_X11_within l K hc12) ⟨Nat.le_of_ble_eq_true rfl, Nat.le_of_ble_eq_true rfl⟩ rfl hl.1 rfl (Nat.le_of_ble_eq_true rfl) dX11_swap_43 ⟨Nat.le_of_ble_eq_true rfl, Nat.le_of_ble_eq_true rfl⟩ (fun _ H locs hW => ?_)
      refine lz_ne (tgt := 51) hx hb dX11_swap_46 (by decide) (fun q13 => ?_) (fun q13 => ?_)
      · have h := ifp q13 h
        refine lv_aload_n hx hb dX11_swap_51 rfl (lv_at hl 0 rfl) ?_
        refine g_X11_45 hF hW dX11_swap_52 ?_
        obtain ⟨M15, hc16, h⟩ := bm_some h
        refine cV_v (ci := 3) (q0 := 26) (rest := []) hF hW mw_X11_295 (c_X3_keep l K a d hc16) ⟨Nat.le_of_ble_eq_true rfl, Nat.le_of_ble_eq_true rfl⟩ rfl rfl (pC_26 K a d _) rfl hl.1 rfl (Nat.le_of_ble_eq_true rfl) dX11_swap_55 ⟨Nat.le_of_ble_eq_true rfl, Nat.le_of_ble_eq_true rfl⟩ (fun d H locs hW => ?_)
        refine lv_aload_n hx hb dX11_swap_58 rfl (lv_at hl 0 rfl) ?_
        refine g_X11_45 hF hW dX11_swap_59 ?_
        refine lv_iload_n hx hb dX11_swap_62 rfl (lv_at hl 1 rfl) ?_
        refine lv_iload_n hx hb dX11_swap_63 rfl (lv_at hl 2 rfl) ?_
        obtain ⟨M18, hc19, h⟩ := bm_some h
        refine cV_v (ci := 3) (q0 := 26) (rest := []) hF hW mw_X11_298 (c_X3_swapRows l K a d hc19) ⟨Nat.le_of_ble_eq_true rfl, Nat.le_of_ble_eq_true rfl⟩ rfl rfl (pC_26 K a d _) rfl hl.1 rfl (Nat.le_of_ble_eq_true rfl) dX11_swap_64 ⟨Nat.le_of_ble_eq_true rfl, Nat.le_of_ble_eq_true rfl⟩ (fun _ H locs hW => ?_)
        refine lv_aload_n hx hb dX11_swap_67 rfl (lv_at hl 0 rfl) ?_
        obtain ⟨r20, M21, hc22, h⟩ := bd_some h
        refine cV_i (ci := 11) (q0 := 0) (rest := []) hF hW mw_X11_301 (c_X11_turned l K a d hc22) ⟨Nat.le_of_ble_eq_true rfl, Nat.le_of_ble_eq_true rfl⟩ rfl rfl (pC_0 K a d _) rfl hl.1 rfl (Nat.le_of_ble_eq_true rfl) dX11_swap_68 ⟨Nat.le_of_ble_eq_true rfl, Nat.le_of_ble_eq_true rfl⟩ (fun _ H locs hW => ?_)
        obtain ⟨rfl, rfl⟩ := Prod.mk.inj (Option.some.inj h)
        refine W.widen (k := 3) (n := 1358) (Nat.le_of_ble_eq_true rfl) (Nat.le_of_ble_eq_true rfl) ?_
        exact rt_i hF hr hk rfl d hW rfl dX11_swap_71
      · have h := ifn q13 h
        refine lv_iconst (v := (-1)) hx hb dX11_swap_49 (by decide) ?_
        obtain ⟨rfl, rfl⟩ := Prod.mk.inj (Option.some.inj h)
        refine W.widen (k := 3) (n := 1358) (Nat.le_of_ble_eq_true rfl) (Nat.le_of_ble_eq_true rfl) ?_
        exact rt_i hF hr hk rfl d hW rfl dX11_swap_50
    · have h := ifn q8 h
      refine lv_aload_n hx hb dX11_swap_24 rfl (lv_at hl 0 rfl) ?_
      refine lv_iconst (v := 3) hx hb dX11_swap_25 (by decide) ?_
      obtain ⟨r23, M24, hc25, h⟩ := bd_some h
      refine cV_i (ci := 11) (q0 := 0) (rest := []) hF hW mw_X11_163 (c_X11_meet l K a d hc25) ⟨Nat.le_of_ble_eq_true rfl, Nat.le_of_ble_eq_true rfl⟩ rfl rfl (pC_0 K a d _) rfl hl.1 rfl (Nat.le_of_ble_eq_true rfl) dX11_swap_26 ⟨Nat.le_of_ble_eq_true rfl, Nat.le_of_ble_eq_true rfl⟩ (fun _ H locs hW => ?_)
      obtain ⟨rfl, rfl⟩ := Prod.mk.inj (Option.some.inj h)
      refine W.widen (k := 3) (n := 1358) (Nat.le_of_ble_eq_true rfl) (Nat.le_of_ble_eq_true rfl) ?_
      exact rt_i hF hr hk rfl d hW rfl dX11_swap_29
  · have h := ifn q4 h
    refine lv_iconst (v := (-1)) hx hb dX11_swap_11 (by decide) ?_
    obtain ⟨rfl, rfl⟩ := Prod.mk.inj (Option.some.inj h)
    refine W.widen (k := 3) (n := 1358) (Nat.le_of_ble_eq_true rfl) (Nat.le_of_ble_eq_true rfl) ?_
    exact rt_i hF hr hk rfl d hW rfl dX11_swap_12
set_option maxRecDepth 100000 in
set_option maxHeartbeats 1000000 in
theorem c_X11_lean (l : Launch) (K : Kx) (a d : Nat → Nat) {M M0 : Mem} {x1 : Int32} {x2 : Int32} {x3 : Int32} {r0 : Int32} (h : f_X11_lean M x1 x2 x3 = some (r0, M0)) : CMi l yX11_lean cX11_lean 4 (some .int) ({ frames := 3, cells := 3, slots := 1358, locals := 104 } : Room) K [.ref (a 0), .int x1, .int x2, .int x3] (wC K a d M) (fun d => wC K a d M0) r0 := by
  refine cs_i (by decide +kernel) (Nat.le_of_ble_eq_true rfl) ?_
  intro p e s m args below meth c A ls hF hr hk hnm hW hl
  have hx := hF.1
  have hb := hF.2.1
  have hl : lv_has ls 4 [(0, .ref (a 0)), (1, .int x1), (2, .int x2), (3, .int x3)] := hl
  obtain ⟨H, hH⟩ : ∃ z, z = s.heap := ⟨_, rfl⟩
  rw [← hH] at hW ⊢
  unfold f_X11_lean at h
  refine lv_aload_n hx hb dX11_lean_0 rfl (lv_at hl 0 rfl) ?_
  refine g_X11_19 hF hW dX11_lean_1 ?_
  refine lv_iload_n hx hb dX11_lean_4 rfl (lv_at hl 1 rfl) ?_
  obtain ⟨r1, hc3, h⟩ := bq_some h
  refine cV_i (ci := 2) (q0 := 5) (rest := []) hF hW mw_X11_152 (c_X2_known l K a d hc3) ⟨Nat.le_of_ble_eq_true rfl, Nat.le_of_ble_eq_true rfl⟩ rfl rfl (pC_5 K a d _) rfl hl.1 rfl (Nat.le_of_ble_eq_true rfl) dX11_lean_5 ⟨Nat.le_of_ble_eq_true rfl, Nat.le_of_ble_eq_true rfl⟩ (fun _ H locs hW => ?_)
  refine lz_eq (tgt := 20) hx hb dX11_lean_8 (by decide) (fun q4 => ?_) (fun q4 => ?_)
  · have h := ifn q4 h
    refine lv_iconst (v := (-1)) hx hb dX11_lean_20 (by decide) ?_
    obtain ⟨rfl, rfl⟩ := Prod.mk.inj (Option.some.inj h)
    refine W.widen (k := 3) (n := 1358) (Nat.le_of_ble_eq_true rfl) (Nat.le_of_ble_eq_true rfl) ?_
    exact rt_i hF hr hk rfl d hW rfl dX11_lean_21
  · have h := ifp q4 h
    refine lv_iload_n hx hb dX11_lean_11 rfl (lv_at hl 2 rfl) ?_
    refine lv_iconst (v := 0) hx hb dX11_lean_12 (by decide) ?_
    refine lv_iconst (v := 3) hx hb dX11_lean_13 (by decide) ?_
    obtain ⟨r5, hc7, h⟩ := bq_some h
    refine cS_i (rest := []) hF hW mw_X11_113 (c_X11_within l K hc7) ⟨Nat.le_of_ble_eq_true rfl, Nat.le_of_ble_eq_true rfl⟩ rfl hl.1 rfl (Nat.le_of_ble_eq_true rfl) dX11_lean_14 ⟨Nat.le_of_ble_eq_true rfl, Nat.le_of_ble_eq_true rfl⟩ (fun _ H locs hW => ?_)
    refine lz_ne (tgt := 22) hx hb dX11_lean_17 (by decide) (fun q8 => ?_) (fun q8 => ?_)
    · have h := ifp q8 h
      refine lv_iload_n hx hb dX11_lean_22 rfl (lv_at hl 3 rfl) ?_
      refine lv_bipush (v := (-20)) hx hb dX11_lean_23 (by decide) ?_
      refine lv_bipush (v := 20) hx hb dX11_lean_25 (by decide) ?_
      obtain ⟨r9, hc11, h⟩ := bq_some h
      refine cS_i (rest := []) hF hW mw_X11_113 (c_X11_within l K hc11) ⟨Nat.le_of_ble_eq_true rfl, Nat.le_of_ble_eq_true rfl⟩ rfl hl.1 rfl (Nat.le_of_ble_eq_true rfl) dX11_lean_27 ⟨Nat.le_of_ble_eq_true rfl, Nat.le_of_ble_eq_true rfl⟩ (fun _ H locs hW => ?_)
      refine lz_ne (tgt := 35) hx hb dX11_lean_30 (by decide) (fun q12 => ?_) (fun q12 => ?_)
      · have h := ifp q12 h
        refine lv_aload_n hx hb dX11_lean_35 rfl (lv_at hl 0 rfl) ?_
        refine g_X11_19 hF hW dX11_lean_36 ?_
        refine lv_iload_n hx hb dX11_lean_39 rfl (lv_at hl 1 rfl) ?_
        obtain ⟨r13, hc15, h⟩ := bq_some h
        refine cV_i (ci := 2) (q0 := 5) (rest := []) hF hW mw_X11_289 (c_X2_isLoop l K a d hc15) ⟨Nat.le_of_ble_eq_true rfl, Nat.le_of_ble_eq_true rfl⟩ rfl rfl (pC_5 K a d _) rfl hl.1 rfl (Nat.le_of_ble_eq_true rfl) dX11_lean_40 ⟨Nat.le_of_ble_eq_true rfl, Nat.le_of_ble_eq_true rfl⟩ (fun _ H locs hW => ?_)
        refine lz_ne (tgt := 52) hx hb dX11_lean_43 (by decide) (fun q16 => ?_) (fun q16 => ?_)
        · have h := ifp q16 h
          refine lv_iload_n hx hb dX11_lean_52 rfl (lv_at hl 2 rfl) ?_
          refine lv_aload_n hx hb dX11_lean_53 rfl (lv_at hl 0 rfl) ?_
          refine g_X11_19 hF hW dX11_lean_54 ?_
          refine g_X11_166 hF hW dX11_lean_57 ?_
          refine lv_iload_n hx hb dX11_lean_60 rfl (lv_at hl 1 rfl) ?_
          obtain ⟨q17, h⟩ := ck_some h
          refine w_ild hF hW (pC_11 K a d _) q17 dX11_lean_61 ?_
          refine lv_icmp_ne (tgt := 67) hx hb dX11_lean_62 (by decide) (fun q18 => ?_) (fun q18 => ?_)
          · have h := ifn q18 h
            refine lv_aload_n hx hb dX11_lean_67 rfl (lv_at hl 0 rfl) ?_
            refine g_X11_45 hF hW dX11_lean_68 ?_
            refine lv_iload_n hx hb dX11_lean_71 rfl (lv_at hl 1 rfl) ?_
            refine lv_iload_n hx hb dX11_lean_72 rfl (lv_at hl 2 rfl) ?_
            refine lv_iload_n hx hb dX11_lean_73 rfl (lv_at hl 3 rfl) ?_
            obtain ⟨r19, hc21, h⟩ := bq_some h
            refine cV_i (ci := 3) (q0 := 26) (rest := []) hF hW mw_X11_304 (c_X3_leanFits l K a d hc21) ⟨Nat.le_of_ble_eq_true rfl, Nat.le_of_ble_eq_true rfl⟩ rfl rfl (pC_26 K a d _) rfl hl.1 rfl (Nat.le_of_ble_eq_true rfl) dX11_lean_74 ⟨Nat.le_of_ble_eq_true rfl, Nat.le_of_ble_eq_true rfl⟩ (fun _ H locs hW => ?_)
            refine lz_ne (tgt := 83) hx hb dX11_lean_77 (by decide) (fun q22 => ?_) (fun q22 => ?_)
            · have h := ifp q22 h
              refine lv_aload_n hx hb dX11_lean_83 rfl (lv_at hl 0 rfl) ?_
              refine g_X11_45 hF hW dX11_lean_84 ?_
              obtain ⟨M24, hc25, h⟩ := bm_some h
              refine cV_v (ci := 3) (q0 := 26) (rest := []) hF hW mw_X11_295 (c_X3_keep l K a d hc25) ⟨Nat.le_of_ble_eq_true rfl, Nat.le_of_ble_eq_true rfl⟩ rfl rfl (pC_26 K a d _) rfl hl.1 rfl (Nat.le_of_ble_eq_true rfl) dX11_lean_87 ⟨Nat.le_of_ble_eq_true rfl, Nat.le_of_ble_eq_true rfl⟩ (fun d H locs hW => ?_)
              refine lv_aload_n hx hb dX11_lean_90 rfl (lv_at hl 0 rfl) ?_
              refine g_X11_45 hF hW dX11_lean_91 ?_
              refine lv_iload_n hx hb dX11_lean_94 rfl (lv_at hl 1 rfl) ?_
              refine lv_iload_n hx hb dX11_lean_95 rfl (lv_at hl 2 rfl) ?_
              refine lv_iload_n hx hb dX11_lean_96 rfl (lv_at hl 3 rfl) ?_
              obtain ⟨M27, hc28, h⟩ := bm_some h
              refine cV_v (ci := 3) (q0 := 26) (rest := []) hF hW mw_X11_307 (c_X3_leanRows l K a d hc28) ⟨Nat.le_of_ble_eq_true rfl, Nat.le_of_ble_eq_true rfl⟩ rfl rfl (pC_26 K a d _) rfl hl.1 rfl (Nat.le_of_ble_eq_true rfl) dX11_lean_97 ⟨Nat.le_of_ble_eq_true rfl, Nat.le_of_ble_eq_true rfl⟩ (fun _ H locs hW => ?_)
              refine lv_aload_n hx hb dX11_lean_100 rfl (lv_at hl 0 rfl) ?_
              obtain ⟨r29, M30, hc31, h⟩ := bd_some h
              refine cV_i (ci := 11) (q0 := 0) (rest := []) hF hW mw_X11_301 (c_X11_turned l K a d hc31) ⟨Nat.le_of_ble_eq_true rfl, Nat.le_of_ble_eq_true rfl⟩ rfl rfl (pC_0 K a d _) rfl hl.1 rfl (Nat.le_of_ble_eq_true rfl) dX11_lean_101 ⟨Nat.le_of_ble_eq_true rfl, Nat.le_of_ble_eq_true rfl⟩ (fun _ H locs hW => ?_)
              obtain ⟨rfl, rfl⟩ := Prod.mk.inj (Option.some.inj h)
              refine W.widen (k := 3) (n := 1358) (Nat.le_of_ble_eq_true rfl) (Nat.le_of_ble_eq_true rfl) ?_
              exact rt_i hF hr hk rfl d hW rfl dX11_lean_104
            · have h := ifn q22 h
              refine lv_bipush (v := (-6)) hx hb dX11_lean_80 (by decide) ?_
              obtain ⟨rfl, rfl⟩ := Prod.mk.inj (Option.some.inj h)
              refine W.widen (k := 3) (n := 1358) (Nat.le_of_ble_eq_true rfl) (Nat.le_of_ble_eq_true rfl) ?_
              exact rt_i hF hr hk rfl d hW rfl dX11_lean_82
          · have h := ifp q18 h
            refine lv_iconst (v := (-1)) hx hb dX11_lean_65 (by decide) ?_
            obtain ⟨rfl, rfl⟩ := Prod.mk.inj (Option.some.inj h)
            refine W.widen (k := 3) (n := 1358) (Nat.le_of_ble_eq_true rfl) (Nat.le_of_ble_eq_true rfl) ?_
            exact rt_i hF hr hk rfl d hW rfl dX11_lean_66
        · have h := ifn q16 h
          refine lv_aload_n hx hb dX11_lean_46 rfl (lv_at hl 0 rfl) ?_
          refine lv_iconst (v := 3) hx hb dX11_lean_47 (by decide) ?_
          obtain ⟨r32, M33, hc34, h⟩ := bd_some h
          refine cV_i (ci := 11) (q0 := 0) (rest := []) hF hW mw_X11_163 (c_X11_meet l K a d hc34) ⟨Nat.le_of_ble_eq_true rfl, Nat.le_of_ble_eq_true rfl⟩ rfl rfl (pC_0 K a d _) rfl hl.1 rfl (Nat.le_of_ble_eq_true rfl) dX11_lean_48 ⟨Nat.le_of_ble_eq_true rfl, Nat.le_of_ble_eq_true rfl⟩ (fun _ H locs hW => ?_)
          obtain ⟨rfl, rfl⟩ := Prod.mk.inj (Option.some.inj h)
          refine W.widen (k := 3) (n := 1358) (Nat.le_of_ble_eq_true rfl) (Nat.le_of_ble_eq_true rfl) ?_
          exact rt_i hF hr hk rfl d hW rfl dX11_lean_51
      · have h := ifn q12 h
        refine lv_iconst (v := (-1)) hx hb dX11_lean_33 (by decide) ?_
        obtain ⟨rfl, rfl⟩ := Prod.mk.inj (Option.some.inj h)
        refine W.widen (k := 3) (n := 1358) (Nat.le_of_ble_eq_true rfl) (Nat.le_of_ble_eq_true rfl) ?_
        exact rt_i hF hr hk rfl d hW rfl dX11_lean_34
    · have h := ifn q8 h
      refine lv_iconst (v := (-1)) hx hb dX11_lean_20 (by decide) ?_
      obtain ⟨rfl, rfl⟩ := Prod.mk.inj (Option.some.inj h)
      refine W.widen (k := 3) (n := 1358) (Nat.le_of_ble_eq_true rfl) (Nat.le_of_ble_eq_true rfl) ?_
      exact rt_i hF hr hk rfl d hW rfl dX11_lean_21
set_option maxRecDepth 100000 in
set_option maxHeartbeats 1000000 in
theorem c_X11_back (l : Launch) (K : Kx) (a d : Nat → Nat) {M M0 : Mem} {x1 : Int32} {r0 : Int32} (h : f_X11_back M x1 = some (r0, M0)) : CMi l yX11_back cX11_back 2 (some .int) ({ frames := 3, cells := 3, slots := 1358, locals := 104 } : Room) K [.ref (a 0), .int x1] (wC K a d M) (fun d => wC K a d M0) r0 := by
  refine cs_i (by decide +kernel) (Nat.le_of_ble_eq_true rfl) ?_
  intro p e s m args below meth c A ls hF hr hk hnm hW hl
  have hx := hF.1
  have hb := hF.2.1
  have hl : lv_has ls 2 [(0, .ref (a 0)), (1, .int x1)] := hl
  obtain ⟨H, hH⟩ : ∃ z, z = s.heap := ⟨_, rfl⟩
  rw [← hH] at hW ⊢
  unfold f_X11_back at h
  refine lv_aload_n hx hb dX11_back_0 rfl (lv_at hl 0 rfl) ?_
  refine g_X11_19 hF hW dX11_back_1 ?_
  refine lv_iload_n hx hb dX11_back_4 rfl (lv_at hl 1 rfl) ?_
  obtain ⟨r1, hc3, h⟩ := bq_some h
  refine cV_i (ci := 2) (q0 := 5) (rest := []) hF hW mw_X11_152 (c_X2_known l K a d hc3) ⟨Nat.le_of_ble_eq_true rfl, Nat.le_of_ble_eq_true rfl⟩ rfl rfl (pC_5 K a d _) rfl hl.1 rfl (Nat.le_of_ble_eq_true rfl) dX11_back_5 ⟨Nat.le_of_ble_eq_true rfl, Nat.le_of_ble_eq_true rfl⟩ (fun _ H locs hW => ?_)
  refine lz_ne (tgt := 13) hx hb dX11_back_8 (by decide) (fun q4 => ?_) (fun q4 => ?_)
  · have h := ifp q4 h
    refine lv_aload_n hx hb dX11_back_13 rfl (lv_at hl 0 rfl) ?_
    refine g_X11_19 hF hW dX11_back_14 ?_
    refine lv_iload_n hx hb dX11_back_17 rfl (lv_at hl 1 rfl) ?_
    obtain ⟨r5, hc7, h⟩ := bq_some h
    refine cV_i (ci := 2) (q0 := 5) (rest := []) hF hW mw_X11_289 (c_X2_isLoop l K a d hc7) ⟨Nat.le_of_ble_eq_true rfl, Nat.le_of_ble_eq_true rfl⟩ rfl rfl (pC_5 K a d _) rfl hl.1 rfl (Nat.le_of_ble_eq_true rfl) dX11_back_18 ⟨Nat.le_of_ble_eq_true rfl, Nat.le_of_ble_eq_true rfl⟩ (fun _ H locs hW => ?_)
    refine lz_ne (tgt := 30) hx hb dX11_back_21 (by decide) (fun q8 => ?_) (fun q8 => ?_)
    · have h := ifp q8 h
      refine lv_aload_n hx hb dX11_back_30 rfl (lv_at hl 0 rfl) ?_
      refine g_X11_45 hF hW dX11_back_31 ?_
      obtain ⟨M10, hc11, h⟩ := bm_some h
      refine cV_v (ci := 3) (q0 := 26) (rest := []) hF hW mw_X11_295 (c_X3_keep l K a d hc11) ⟨Nat.le_of_ble_eq_true rfl, Nat.le_of_ble_eq_true rfl⟩ rfl rfl (pC_26 K a d _) rfl hl.1 rfl (Nat.le_of_ble_eq_true rfl) dX11_back_34 ⟨Nat.le_of_ble_eq_true rfl, Nat.le_of_ble_eq_true rfl⟩ (fun d H locs hW => ?_)
      refine lv_aload_n hx hb dX11_back_37 rfl (lv_at hl 0 rfl) ?_
      refine g_X11_45 hF hW dX11_back_38 ?_
      refine lv_iload_n hx hb dX11_back_41 rfl (lv_at hl 1 rfl) ?_
      obtain ⟨M13, hc14, h⟩ := bm_some h
      refine cV_v (ci := 3) (q0 := 26) (rest := []) hF hW mw_X11_311 (c_X3_turnSigns l K a d hc14) ⟨Nat.le_of_ble_eq_true rfl, Nat.le_of_ble_eq_true rfl⟩ rfl rfl (pC_26 K a d _) rfl hl.1 rfl (Nat.le_of_ble_eq_true rfl) dX11_back_42 ⟨Nat.le_of_ble_eq_true rfl, Nat.le_of_ble_eq_true rfl⟩ (fun _ H locs hW => ?_)
      refine lv_aload_n hx hb dX11_back_45 rfl (lv_at hl 0 rfl) ?_
      obtain ⟨r15, M16, hc17, h⟩ := bd_some h
      refine cV_i (ci := 11) (q0 := 0) (rest := []) hF hW mw_X11_301 (c_X11_turned l K a d hc17) ⟨Nat.le_of_ble_eq_true rfl, Nat.le_of_ble_eq_true rfl⟩ rfl rfl (pC_0 K a d _) rfl hl.1 rfl (Nat.le_of_ble_eq_true rfl) dX11_back_46 ⟨Nat.le_of_ble_eq_true rfl, Nat.le_of_ble_eq_true rfl⟩ (fun _ H locs hW => ?_)
      obtain ⟨rfl, rfl⟩ := Prod.mk.inj (Option.some.inj h)
      refine W.widen (k := 3) (n := 1358) (Nat.le_of_ble_eq_true rfl) (Nat.le_of_ble_eq_true rfl) ?_
      exact rt_i hF hr hk rfl d hW rfl dX11_back_49
    · have h := ifn q8 h
      refine lv_aload_n hx hb dX11_back_24 rfl (lv_at hl 0 rfl) ?_
      refine lv_iconst (v := 3) hx hb dX11_back_25 (by decide) ?_
      obtain ⟨r18, M19, hc20, h⟩ := bd_some h
      refine cV_i (ci := 11) (q0 := 0) (rest := []) hF hW mw_X11_163 (c_X11_meet l K a d hc20) ⟨Nat.le_of_ble_eq_true rfl, Nat.le_of_ble_eq_true rfl⟩ rfl rfl (pC_0 K a d _) rfl hl.1 rfl (Nat.le_of_ble_eq_true rfl) dX11_back_26 ⟨Nat.le_of_ble_eq_true rfl, Nat.le_of_ble_eq_true rfl⟩ (fun _ H locs hW => ?_)
      obtain ⟨rfl, rfl⟩ := Prod.mk.inj (Option.some.inj h)
      refine W.widen (k := 3) (n := 1358) (Nat.le_of_ble_eq_true rfl) (Nat.le_of_ble_eq_true rfl) ?_
      exact rt_i hF hr hk rfl d hW rfl dX11_back_29
  · have h := ifn q4 h
    refine lv_iconst (v := (-1)) hx hb dX11_back_11 (by decide) ?_
    obtain ⟨rfl, rfl⟩ := Prod.mk.inj (Option.some.inj h)
    refine W.widen (k := 3) (n := 1358) (Nat.le_of_ble_eq_true rfl) (Nat.le_of_ble_eq_true rfl) ?_
    exact rt_i hF hr hk rfl d hW rfl dX11_back_12
set_option maxRecDepth 100000 in
set_option maxHeartbeats 1000000 in
theorem c_X11_shift (l : Launch) (K : Kx) (a d : Nat → Nat) {M M0 : Mem} {x1 : Int32} {x2 : Int32} {x3 : Int32} {r0 : Int32} (h : f_X11_shift M x1 x2 x3 = some (r0, M0)) : CMi l yX11_shift cX11_shift 6 (some .int) ({ frames := 3, cells := 3, slots := 1358, locals := 104 } : Room) K [.ref (a 0), .int x1, .int x2, .int x3] (wC K a d M) (fun d => wC K a d M0) r0 := by
  refine cs_i (by decide +kernel) (Nat.le_of_ble_eq_true rfl) ?_
  intro p e s m args below meth c A ls hF hr hk hnm hW hl
  have hx := hF.1
  have hb := hF.2.1
  have hl : lv_has ls 6 [(0, .ref (a 0)), (1, .int x1), (2, .int x2), (3, .int x3)] := hl
  obtain ⟨H, hH⟩ : ∃ z, z = s.heap := ⟨_, rfl⟩
  rw [← hH] at hW ⊢
  unfold f_X11_shift at h
  refine lv_aload_n hx hb dX11_shift_0 rfl (lv_at hl 0 rfl) ?_
  refine g_X11_19 hF hW dX11_shift_1 ?_
  refine lv_iload_n hx hb dX11_shift_4 rfl (lv_at hl 1 rfl) ?_
  obtain ⟨r1, hc3, h⟩ := bq_some h
  refine cV_i (ci := 2) (q0 := 5) (rest := []) hF hW mw_X11_152 (c_X2_known l K a d hc3) ⟨Nat.le_of_ble_eq_true rfl, Nat.le_of_ble_eq_true rfl⟩ rfl rfl (pC_5 K a d _) rfl hl.1 rfl (Nat.le_of_ble_eq_true rfl) dX11_shift_5 ⟨Nat.le_of_ble_eq_true rfl, Nat.le_of_ble_eq_true rfl⟩ (fun _ H locs hW => ?_)
  refine lz_eq (tgt := 20) hx hb dX11_shift_8 (by decide) (fun q4 => ?_) (fun q4 => ?_)
  · have h := ifn q4 h
    refine lv_iconst (v := (-1)) hx hb dX11_shift_20 (by decide) ?_
    obtain ⟨rfl, rfl⟩ := Prod.mk.inj (Option.some.inj h)
    refine W.widen (k := 3) (n := 1358) (Nat.le_of_ble_eq_true rfl) (Nat.le_of_ble_eq_true rfl) ?_
    exact rt_i hF hr hk rfl d hW rfl dX11_shift_21
  · have h := ifp q4 h
    refine lv_iload_n hx hb dX11_shift_11 rfl (lv_at hl 2 rfl) ?_
    refine lv_iconst (v := 0) hx hb dX11_shift_12 (by decide) ?_
    refine lv_iconst (v := 3) hx hb dX11_shift_13 (by decide) ?_
    obtain ⟨r5, hc7, h⟩ := bq_some h
    refine cS_i (rest := []) hF hW mw_X11_113 (c_X11_within l K hc7) ⟨Nat.le_of_ble_eq_true rfl, Nat.le_of_ble_eq_true rfl⟩ rfl hl.1 rfl (Nat.le_of_ble_eq_true rfl) dX11_shift_14 ⟨Nat.le_of_ble_eq_true rfl, Nat.le_of_ble_eq_true rfl⟩ (fun _ H locs hW => ?_)
    refine lz_ne (tgt := 22) hx hb dX11_shift_17 (by decide) (fun q8 => ?_) (fun q8 => ?_)
    · have h := ifp q8 h
      refine lv_iload_n hx hb dX11_shift_22 rfl (lv_at hl 3 rfl) ?_
      refine lv_sipush (v := (-400)) hx hb dX11_shift_23 (by decide) ?_
      refine lv_sipush (v := 400) hx hb dX11_shift_26 (by decide) ?_
      obtain ⟨r9, hc11, h⟩ := bq_some h
      refine cS_i (rest := []) hF hW mw_X11_113 (c_X11_within l K hc11) ⟨Nat.le_of_ble_eq_true rfl, Nat.le_of_ble_eq_true rfl⟩ rfl hl.1 rfl (Nat.le_of_ble_eq_true rfl) dX11_shift_29 ⟨Nat.le_of_ble_eq_true rfl, Nat.le_of_ble_eq_true rfl⟩ (fun _ H locs hW => ?_)
      refine lz_ne (tgt := 37) hx hb dX11_shift_32 (by decide) (fun q12 => ?_) (fun q12 => ?_)
      · have h := ifp q12 h
        refine lv_aload_n hx hb dX11_shift_37 rfl (lv_at hl 0 rfl) ?_
        refine g_X11_19 hF hW dX11_shift_38 ?_
        refine lv_iload_n hx hb dX11_shift_41 rfl (lv_at hl 1 rfl) ?_
        obtain ⟨r13, hc15, h⟩ := bq_some h
        refine cV_i (ci := 2) (q0 := 5) (rest := []) hF hW mw_X11_160 (c_X2_isAct l K a d hc15) ⟨Nat.le_of_ble_eq_true rfl, Nat.le_of_ble_eq_true rfl⟩ rfl rfl (pC_5 K a d _) rfl hl.1 rfl (Nat.le_of_ble_eq_true rfl) dX11_shift_42 ⟨Nat.le_of_ble_eq_true rfl, Nat.le_of_ble_eq_true rfl⟩ (fun _ H locs hW => ?_)
        refine lz_ne (tgt := 54) hx hb dX11_shift_45 (by decide) (fun q16 => ?_) (fun q16 => ?_)
        · have h := ifp q16 h
          refine lv_aload_n hx hb dX11_shift_54 rfl (lv_at hl 0 rfl) ?_
          refine g_X11_45 hF hW dX11_shift_55 ?_
          refine g_X11_314 hF hW dX11_shift_58 ?_
          refine lv_aload_n hx hb dX11_shift_61 rfl (lv_at hl 0 rfl) ?_
          refine g_X11_19 hF hW dX11_shift_62 ?_
          refine g_X11_169 hF hW dX11_shift_65 ?_
          refine lv_iload_n hx hb dX11_shift_68 rfl (lv_at hl 1 rfl) ?_
          obtain ⟨q17, h⟩ := ck_some h
          refine w_ild hF hW (pC_17 K a d _) q17 dX11_shift_69 ?_
          refine lv_iload_n hx hb dX11_shift_70 rfl (lv_at hl 2 rfl) ?_
          obtain ⟨r18, hc20, h⟩ := bq_some h
          refine cV_i (ci := 7) (q0 := 27) (rest := []) hF hW mw_X11_318 (c_X7_loopRow l K a d hc20) ⟨Nat.le_of_ble_eq_true rfl, Nat.le_of_ble_eq_true rfl⟩ rfl rfl (pC_27 K a d _) rfl hl.1 rfl (Nat.le_of_ble_eq_true rfl) dX11_shift_71 ⟨Nat.le_of_ble_eq_true rfl, Nat.le_of_ble_eq_true rfl⟩ (fun _ H locs hW => ?_)
          refine lv_istore (lv' := [(4, .int r18), (0, .ref (a 0)), (1, .int x1), (2, .int x2), (3, .int x3)]) hx hb dX11_shift_74 hl (by decide) rfl (fun ls hl => ?_)
          refine lv_iload hx hb dX11_shift_76 (lv_at hl 0 rfl) ?_
          refine lv_if_ge (tgt := 83) hx hb dX11_shift_78 (by decide) (fun q21 => ?_) (fun q21 => ?_)
          · have h := ifp q21 h
            refine lv_aload_n hx hb dX11_shift_83 rfl (lv_at hl 1 rfl) ?_
            refine g_X11_45 hF hW dX11_shift_84 ?_
            refine g_X11_314 hF hW dX11_shift_87 ?_
            refine g_X11_323_now hF hW dX11_shift_90 ?_
            refine lv_iload hx hb dX11_shift_93 (lv_at hl 0 rfl) ?_
            obtain ⟨q22, h⟩ := ck_some h
            refine w_ild hF hW (pC_28 K a d _) q22 dX11_shift_95 ?_
            refine lv_iload_n hx hb dX11_shift_96 rfl (lv_at hl 4 rfl) ?_
            refine lv_iadd hx hb dX11_shift_97 ?_
            refine lv_istore (lv' := [(5, .int ((M.1 28 r18.toNatClampNeg) + x3)), (4, .int r18), (0, .ref (a 0)), (1, .int x1), (2, .int x2), (3, .int x3)]) hx hb dX11_shift_98 hl (by decide) rfl (fun ls hl => ?_)
            refine lv_iload hx hb dX11_shift_100 (lv_at hl 0 rfl) ?_
            obtain ⟨r23, hc25, h⟩ := bq_some h
            refine cS_i (rest := []) hF hW mw_X11_326 (c_X11_rowNumberFits l K hc25) ⟨Nat.le_of_ble_eq_true rfl, Nat.le_of_ble_eq_true rfl⟩ rfl hl.1 rfl (Nat.le_of_ble_eq_true rfl) dX11_shift_102 ⟨Nat.le_of_ble_eq_true rfl, Nat.le_of_ble_eq_true rfl⟩ (fun _ H locs hW => ?_)
            refine lz_ne (tgt := 111) hx hb dX11_shift_105 (by decide) (fun q26 => ?_) (fun q26 => ?_)
            · have h := ifp q26 h
              refine lv_aload_n hx hb dX11_shift_111 rfl (lv_at hl 2 rfl) ?_
              refine g_X11_45 hF hW dX11_shift_112 ?_
              obtain ⟨M28, hc29, h⟩ := bm_some h
              refine cV_v (ci := 3) (q0 := 26) (rest := []) hF hW mw_X11_295 (c_X3_keep l K a d hc29) ⟨Nat.le_of_ble_eq_true rfl, Nat.le_of_ble_eq_true rfl⟩ rfl rfl (pC_26 K a d _) rfl hl.1 rfl (Nat.le_of_ble_eq_true rfl) dX11_shift_115 ⟨Nat.le_of_ble_eq_true rfl, Nat.le_of_ble_eq_true rfl⟩ (fun d H locs hW => ?_)
              refine lv_aload_n hx hb dX11_shift_118 rfl (lv_at hl 2 rfl) ?_
              refine g_X11_45 hF hW dX11_shift_119 ?_
              refine g_X11_314 hF hW dX11_shift_122 ?_
              refine g_X11_323_now hF hW dX11_shift_125 ?_
              refine lv_iload hx hb dX11_shift_128 (lv_at hl 1 rfl) ?_
              refine lv_iload hx hb dX11_shift_130 (lv_at hl 0 rfl) ?_
              obtain ⟨q30, h⟩ := ck_some h
              refine w_ist hF hW (pC_28 K a d _) q30 (uC_28 K a d _ _ _) dX11_shift_132 (fun H locs hW => ?_)
              refine lv_aload_n hx hb dX11_shift_133 rfl (lv_at hl 2 rfl) ?_
              obtain ⟨r31, M32, hc33, h⟩ := bd_some h
              refine cV_i (ci := 11) (q0 := 0) (rest := []) hF hW mw_X11_301 (c_X11_turned l K a d hc33) ⟨Nat.le_of_ble_eq_true rfl, Nat.le_of_ble_eq_true rfl⟩ rfl rfl (pC_0 K a d _) rfl hl.1 rfl (Nat.le_of_ble_eq_true rfl) dX11_shift_134 ⟨Nat.le_of_ble_eq_true rfl, Nat.le_of_ble_eq_true rfl⟩ (fun _ H locs hW => ?_)
              obtain ⟨rfl, rfl⟩ := Prod.mk.inj (Option.some.inj h)
              refine W.widen (k := 3) (n := 1358) (Nat.le_of_ble_eq_true rfl) (Nat.le_of_ble_eq_true rfl) ?_
              exact rt_i hF hr hk rfl d hW rfl dX11_shift_137
            · have h := ifn q26 h
              refine lv_bipush (v := (-6)) hx hb dX11_shift_108 (by decide) ?_
              obtain ⟨rfl, rfl⟩ := Prod.mk.inj (Option.some.inj h)
              refine W.widen (k := 3) (n := 1358) (Nat.le_of_ble_eq_true rfl) (Nat.le_of_ble_eq_true rfl) ?_
              exact rt_i hF hr hk rfl d hW rfl dX11_shift_110
          · have h := ifn q21 h
            refine lv_iconst (v := (-1)) hx hb dX11_shift_81 (by decide) ?_
            obtain ⟨rfl, rfl⟩ := Prod.mk.inj (Option.some.inj h)
            refine W.widen (k := 3) (n := 1358) (Nat.le_of_ble_eq_true rfl) (Nat.le_of_ble_eq_true rfl) ?_
            exact rt_i hF hr hk rfl d hW rfl dX11_shift_82
        · have h := ifn q16 h
          refine lv_aload_n hx hb dX11_shift_48 rfl (lv_at hl 0 rfl) ?_
          refine lv_iconst (v := 3) hx hb dX11_shift_49 (by decide) ?_
          obtain ⟨r34, M35, hc36, h⟩ := bd_some h
          refine cV_i (ci := 11) (q0 := 0) (rest := []) hF hW mw_X11_163 (c_X11_meet l K a d hc36) ⟨Nat.le_of_ble_eq_true rfl, Nat.le_of_ble_eq_true rfl⟩ rfl rfl (pC_0 K a d _) rfl hl.1 rfl (Nat.le_of_ble_eq_true rfl) dX11_shift_50 ⟨Nat.le_of_ble_eq_true rfl, Nat.le_of_ble_eq_true rfl⟩ (fun _ H locs hW => ?_)
          obtain ⟨rfl, rfl⟩ := Prod.mk.inj (Option.some.inj h)
          refine W.widen (k := 3) (n := 1358) (Nat.le_of_ble_eq_true rfl) (Nat.le_of_ble_eq_true rfl) ?_
          exact rt_i hF hr hk rfl d hW rfl dX11_shift_53
      · have h := ifn q12 h
        refine lv_iconst (v := (-1)) hx hb dX11_shift_35 (by decide) ?_
        obtain ⟨rfl, rfl⟩ := Prod.mk.inj (Option.some.inj h)
        refine W.widen (k := 3) (n := 1358) (Nat.le_of_ble_eq_true rfl) (Nat.le_of_ble_eq_true rfl) ?_
        exact rt_i hF hr hk rfl d hW rfl dX11_shift_36
    · have h := ifn q8 h
      refine lv_iconst (v := (-1)) hx hb dX11_shift_20 (by decide) ?_
      obtain ⟨rfl, rfl⟩ := Prod.mk.inj (Option.some.inj h)
      refine W.widen (k := 3) (n := 1358) (Nat.le_of_ble_eq_true rfl) (Nat.le_of_ble_eq_true rfl) ?_
      exact rt_i hF hr hk rfl d hW rfl dX11_shift_21
set_option maxRecDepth 100000 in
set_option maxHeartbeats 1000000 in
theorem c_X11_tile (l : Launch) (K : Kx) (a d : Nat → Nat) {M M0 : Mem} {x1 : Int32} {x2 : Int32} {x3 : Int32} {r0 : Int32} (h : f_X11_tile M x1 x2 x3 = some (r0, M0)) : CMi l yX11_tile cX11_tile 4 (some .int) ({ frames := 4, cells := 3, slots := 1358, locals := 112 } : Room) K [.ref (a 0), .int x1, .int x2, .int x3] (wC K a d M) (fun d => wC K a d M0) r0 := by
  refine cs_i (by decide +kernel) (Nat.le_of_ble_eq_true rfl) ?_
  intro p e s m args below meth c A ls hF hr hk hnm hW hl
  have hx := hF.1
  have hb := hF.2.1
  have hl : lv_has ls 4 [(0, .ref (a 0)), (1, .int x1), (2, .int x2), (3, .int x3)] := hl
  obtain ⟨H, hH⟩ : ∃ z, z = s.heap := ⟨_, rfl⟩
  rw [← hH] at hW ⊢
  unfold f_X11_tile at h
  refine lv_aload_n hx hb dX11_tile_0 rfl (lv_at hl 0 rfl) ?_
  refine g_X11_19 hF hW dX11_tile_1 ?_
  refine lv_iload_n hx hb dX11_tile_4 rfl (lv_at hl 1 rfl) ?_
  obtain ⟨r1, hc3, h⟩ := bq_some h
  refine cV_i (ci := 2) (q0 := 5) (rest := []) hF hW mw_X11_152 (c_X2_known l K a d hc3) ⟨Nat.le_of_ble_eq_true rfl, Nat.le_of_ble_eq_true rfl⟩ rfl rfl (pC_5 K a d _) rfl hl.1 rfl (Nat.le_of_ble_eq_true rfl) dX11_tile_5 ⟨Nat.le_of_ble_eq_true rfl, Nat.le_of_ble_eq_true rfl⟩ (fun _ H locs hW => ?_)
  refine lz_eq (tgt := 30) hx hb dX11_tile_8 (by decide) (fun q4 => ?_) (fun q4 => ?_)
  · have h := ifn q4 h
    refine lv_iconst (v := (-1)) hx hb dX11_tile_30 (by decide) ?_
    obtain ⟨rfl, rfl⟩ := Prod.mk.inj (Option.some.inj h)
    refine W.widen (k := 3) (n := 1358) (Nat.le_of_ble_eq_true rfl) (Nat.le_of_ble_eq_true rfl) ?_
    exact rt_i hF hr hk rfl d hW rfl dX11_tile_31
  · have h := ifp q4 h
    refine lv_iload_n hx hb dX11_tile_11 rfl (lv_at hl 2 rfl) ?_
    refine lv_iconst (v := 1) hx hb dX11_tile_12 (by decide) ?_
    refine lv_iconst (v := 4) hx hb dX11_tile_13 (by decide) ?_
    obtain ⟨r5, hc7, h⟩ := bq_some h
    refine cS_i (rest := []) hF hW mw_X11_113 (c_X11_within l K hc7) ⟨Nat.le_of_ble_eq_true rfl, Nat.le_of_ble_eq_true rfl⟩ rfl hl.1 rfl (Nat.le_of_ble_eq_true rfl) dX11_tile_14 ⟨Nat.le_of_ble_eq_true rfl, Nat.le_of_ble_eq_true rfl⟩ (fun _ H locs hW => ?_)
    refine lz_eq (tgt := 30) hx hb dX11_tile_17 (by decide) (fun q8 => ?_) (fun q8 => ?_)
    · have h := ifn q8 h
      refine lv_iconst (v := (-1)) hx hb dX11_tile_30 (by decide) ?_
      obtain ⟨rfl, rfl⟩ := Prod.mk.inj (Option.some.inj h)
      refine W.widen (k := 3) (n := 1358) (Nat.le_of_ble_eq_true rfl) (Nat.le_of_ble_eq_true rfl) ?_
      exact rt_i hF hr hk rfl d hW rfl dX11_tile_31
    · have h := ifp q8 h
      refine lv_iload_n hx hb dX11_tile_20 rfl (lv_at hl 3 rfl) ?_
      refine lv_iconst (v := 2) hx hb dX11_tile_21 (by decide) ?_
      refine lv_bipush (v := 20) hx hb dX11_tile_22 (by decide) ?_
      obtain ⟨r9, hc11, h⟩ := bq_some h
      refine cS_i (rest := []) hF hW mw_X11_113 (c_X11_within l K hc11) ⟨Nat.le_of_ble_eq_true rfl, Nat.le_of_ble_eq_true rfl⟩ rfl hl.1 rfl (Nat.le_of_ble_eq_true rfl) dX11_tile_24 ⟨Nat.le_of_ble_eq_true rfl, Nat.le_of_ble_eq_true rfl⟩ (fun _ H locs hW => ?_)
      refine lz_ne (tgt := 32) hx hb dX11_tile_27 (by decide) (fun q12 => ?_) (fun q12 => ?_)
      · have h := ifp q12 h
        refine lv_aload_n hx hb dX11_tile_32 rfl (lv_at hl 0 rfl) ?_
        refine g_X11_19 hF hW dX11_tile_33 ?_
        refine lv_iload_n hx hb dX11_tile_36 rfl (lv_at hl 1 rfl) ?_
        obtain ⟨r13, hc15, h⟩ := bq_some h
        refine cV_i (ci := 2) (q0 := 5) (rest := []) hF hW mw_X11_289 (c_X2_isLoop l K a d hc15) ⟨Nat.le_of_ble_eq_true rfl, Nat.le_of_ble_eq_true rfl⟩ rfl rfl (pC_5 K a d _) rfl hl.1 rfl (Nat.le_of_ble_eq_true rfl) dX11_tile_37 ⟨Nat.le_of_ble_eq_true rfl, Nat.le_of_ble_eq_true rfl⟩ (fun _ H locs hW => ?_)
        refine lz_ne (tgt := 49) hx hb dX11_tile_40 (by decide) (fun q16 => ?_) (fun q16 => ?_)
        · have h := ifp q16 h
          refine lv_aload_n hx hb dX11_tile_49 rfl (lv_at hl 0 rfl) ?_
          refine g_X11_45 hF hW dX11_tile_50 ?_
          refine lv_iload_n hx hb dX11_tile_53 rfl (lv_at hl 1 rfl) ?_
          refine lv_iload_n hx hb dX11_tile_54 rfl (lv_at hl 2 rfl) ?_
          refine lv_iload_n hx hb dX11_tile_55 rfl (lv_at hl 3 rfl) ?_
          obtain ⟨r17, hc19, h⟩ := bq_some h
          refine cV_i (ci := 3) (q0 := 26) (rest := []) hF hW mw_X11_329 (c_X3_tileFits l K a d hc19) ⟨Nat.le_of_ble_eq_true rfl, Nat.le_of_ble_eq_true rfl⟩ rfl rfl (pC_26 K a d _) rfl hl.1 rfl (Nat.le_of_ble_eq_true rfl) dX11_tile_56 ⟨Nat.le_of_ble_eq_true rfl, Nat.le_of_ble_eq_true rfl⟩ (fun _ H locs hW => ?_)
          refine lz_ne (tgt := 65) hx hb dX11_tile_59 (by decide) (fun q20 => ?_) (fun q20 => ?_)
          · have h := ifp q20 h
            refine lv_aload_n hx hb dX11_tile_65 rfl (lv_at hl 0 rfl) ?_
            refine g_X11_45 hF hW dX11_tile_66 ?_
            obtain ⟨M22, hc23, h⟩ := bm_some h
            refine cV_v (ci := 3) (q0 := 26) (rest := []) hF hW mw_X11_295 (c_X3_keep l K a d hc23) ⟨Nat.le_of_ble_eq_true rfl, Nat.le_of_ble_eq_true rfl⟩ rfl rfl (pC_26 K a d _) rfl hl.1 rfl (Nat.le_of_ble_eq_true rfl) dX11_tile_69 ⟨Nat.le_of_ble_eq_true rfl, Nat.le_of_ble_eq_true rfl⟩ (fun d H locs hW => ?_)
            refine lv_aload_n hx hb dX11_tile_72 rfl (lv_at hl 0 rfl) ?_
            refine g_X11_45 hF hW dX11_tile_73 ?_
            refine lv_iload_n hx hb dX11_tile_76 rfl (lv_at hl 1 rfl) ?_
            refine lv_iload_n hx hb dX11_tile_77 rfl (lv_at hl 2 rfl) ?_
            refine lv_iload_n hx hb dX11_tile_78 rfl (lv_at hl 3 rfl) ?_
            obtain ⟨M25, hc26, h⟩ := bm_some h
            refine cV_v (ci := 3) (q0 := 26) (rest := []) hF hW mw_X11_332 (c_X3_tileRows l K a d hc26) ⟨Nat.le_of_ble_eq_true rfl, Nat.le_of_ble_eq_true rfl⟩ rfl rfl (pC_26 K a d _) rfl hl.1 rfl (Nat.le_of_ble_eq_true rfl) dX11_tile_79 ⟨Nat.le_of_ble_eq_true rfl, Nat.le_of_ble_eq_true rfl⟩ (fun _ H locs hW => ?_)
            refine lv_aload_n hx hb dX11_tile_82 rfl (lv_at hl 0 rfl) ?_
            obtain ⟨r27, M28, hc29, h⟩ := bd_some h
            refine cV_i (ci := 11) (q0 := 0) (rest := []) hF hW mw_X11_301 (c_X11_turned l K a d hc29) ⟨Nat.le_of_ble_eq_true rfl, Nat.le_of_ble_eq_true rfl⟩ rfl rfl (pC_0 K a d _) rfl hl.1 rfl (Nat.le_of_ble_eq_true rfl) dX11_tile_83 ⟨Nat.le_of_ble_eq_true rfl, Nat.le_of_ble_eq_true rfl⟩ (fun _ H locs hW => ?_)
            obtain ⟨rfl, rfl⟩ := Prod.mk.inj (Option.some.inj h)
            refine W.widen (k := 3) (n := 1358) (Nat.le_of_ble_eq_true rfl) (Nat.le_of_ble_eq_true rfl) ?_
            exact rt_i hF hr hk rfl d hW rfl dX11_tile_86
          · have h := ifn q20 h
            refine lv_bipush (v := (-2)) hx hb dX11_tile_62 (by decide) ?_
            obtain ⟨rfl, rfl⟩ := Prod.mk.inj (Option.some.inj h)
            refine W.widen (k := 3) (n := 1358) (Nat.le_of_ble_eq_true rfl) (Nat.le_of_ble_eq_true rfl) ?_
            exact rt_i hF hr hk rfl d hW rfl dX11_tile_64
        · have h := ifn q16 h
          refine lv_aload_n hx hb dX11_tile_43 rfl (lv_at hl 0 rfl) ?_
          refine lv_iconst (v := 3) hx hb dX11_tile_44 (by decide) ?_
          obtain ⟨r30, M31, hc32, h⟩ := bd_some h
          refine cV_i (ci := 11) (q0 := 0) (rest := []) hF hW mw_X11_163 (c_X11_meet l K a d hc32) ⟨Nat.le_of_ble_eq_true rfl, Nat.le_of_ble_eq_true rfl⟩ rfl rfl (pC_0 K a d _) rfl hl.1 rfl (Nat.le_of_ble_eq_true rfl) dX11_tile_45 ⟨Nat.le_of_ble_eq_true rfl, Nat.le_of_ble_eq_true rfl⟩ (fun _ H locs hW => ?_)
          obtain ⟨rfl, rfl⟩ := Prod.mk.inj (Option.some.inj h)
          refine W.widen (k := 3) (n := 1358) (Nat.le_of_ble_eq_true rfl) (Nat.le_of_ble_eq_true rfl) ?_
          exact rt_i hF hr hk rfl d hW rfl dX11_tile_48
      · have h := ifn q12 h
        refine lv_iconst (v := (-1)) hx hb dX11_tile_30 (by decide) ?_
        obtain ⟨rfl, rfl⟩ := Prod.mk.inj (Option.some.inj h)
        refine W.widen (k := 3) (n := 1358) (Nat.le_of_ble_eq_true rfl) (Nat.le_of_ble_eq_true rfl) ?_
        exact rt_i hF hr hk rfl d hW rfl dX11_tile_31
set_option maxRecDepth 100000 in
set_option maxHeartbeats 1000000 in
theorem c_X11_part (l : Launch) (K : Kx) (a d : Nat → Nat) {M M0 : Mem} {x1 : Int32} {r0 : Int32} (h : f_X11_part M x1 = some (r0, M0)) : CMi l yX11_part cX11_part 2 (some .int) ({ frames := 4, cells := 3, slots := 1358, locals := 104 } : Room) K [.ref (a 0), .int x1] (wC K a d M) (fun d => wC K a d M0) r0 := by
  refine cs_i (by decide +kernel) (Nat.le_of_ble_eq_true rfl) ?_
  intro p e s m args below meth c A ls hF hr hk hnm hW hl
  have hx := hF.1
  have hb := hF.2.1
  have hl : lv_has ls 2 [(0, .ref (a 0)), (1, .int x1)] := hl
  obtain ⟨H, hH⟩ : ∃ z, z = s.heap := ⟨_, rfl⟩
  rw [← hH] at hW ⊢
  unfold f_X11_part at h
  refine lv_aload_n hx hb dX11_part_0 rfl (lv_at hl 0 rfl) ?_
  refine g_X11_19 hF hW dX11_part_1 ?_
  refine lv_iload_n hx hb dX11_part_4 rfl (lv_at hl 1 rfl) ?_
  obtain ⟨r1, hc3, h⟩ := bq_some h
  refine cV_i (ci := 2) (q0 := 5) (rest := []) hF hW mw_X11_152 (c_X2_known l K a d hc3) ⟨Nat.le_of_ble_eq_true rfl, Nat.le_of_ble_eq_true rfl⟩ rfl rfl (pC_5 K a d _) rfl hl.1 rfl (Nat.le_of_ble_eq_true rfl) dX11_part_5 ⟨Nat.le_of_ble_eq_true rfl, Nat.le_of_ble_eq_true rfl⟩ (fun _ H locs hW => ?_)
  refine lz_ne (tgt := 13) hx hb dX11_part_8 (by decide) (fun q4 => ?_) (fun q4 => ?_)
  · have h := ifp q4 h
    refine lv_aload_n hx hb dX11_part_13 rfl (lv_at hl 0 rfl) ?_
    refine g_X11_19 hF hW dX11_part_14 ?_
    refine lv_iload_n hx hb dX11_part_17 rfl (lv_at hl 1 rfl) ?_
    obtain ⟨r5, hc7, h⟩ := bq_some h
    refine cV_i (ci := 2) (q0 := 5) (rest := []) hF hW mw_X11_289 (c_X2_isLoop l K a d hc7) ⟨Nat.le_of_ble_eq_true rfl, Nat.le_of_ble_eq_true rfl⟩ rfl rfl (pC_5 K a d _) rfl hl.1 rfl (Nat.le_of_ble_eq_true rfl) dX11_part_18 ⟨Nat.le_of_ble_eq_true rfl, Nat.le_of_ble_eq_true rfl⟩ (fun _ H locs hW => ?_)
    refine lz_ne (tgt := 30) hx hb dX11_part_21 (by decide) (fun q8 => ?_) (fun q8 => ?_)
    · have h := ifp q8 h
      refine lv_aload_n hx hb dX11_part_30 rfl (lv_at hl 0 rfl) ?_
      refine g_X11_45 hF hW dX11_part_31 ?_
      refine lv_iload_n hx hb dX11_part_34 rfl (lv_at hl 1 rfl) ?_
      obtain ⟨r9, hc11, h⟩ := bq_some h
      refine cV_i (ci := 3) (q0 := 26) (rest := []) hF hW mw_X11_335 (c_X3_partFits l K a d hc11) ⟨Nat.le_of_ble_eq_true rfl, Nat.le_of_ble_eq_true rfl⟩ rfl rfl (pC_26 K a d _) rfl hl.1 rfl (Nat.le_of_ble_eq_true rfl) dX11_part_35 ⟨Nat.le_of_ble_eq_true rfl, Nat.le_of_ble_eq_true rfl⟩ (fun _ H locs hW => ?_)
      refine lz_ne (tgt := 44) hx hb dX11_part_38 (by decide) (fun q12 => ?_) (fun q12 => ?_)
      · have h := ifp q12 h
        refine lv_aload_n hx hb dX11_part_44 rfl (lv_at hl 0 rfl) ?_
        refine g_X11_45 hF hW dX11_part_45 ?_
        obtain ⟨M14, hc15, h⟩ := bm_some h
        refine cV_v (ci := 3) (q0 := 26) (rest := []) hF hW mw_X11_295 (c_X3_keep l K a d hc15) ⟨Nat.le_of_ble_eq_true rfl, Nat.le_of_ble_eq_true rfl⟩ rfl rfl (pC_26 K a d _) rfl hl.1 rfl (Nat.le_of_ble_eq_true rfl) dX11_part_48 ⟨Nat.le_of_ble_eq_true rfl, Nat.le_of_ble_eq_true rfl⟩ (fun d H locs hW => ?_)
        refine lv_aload_n hx hb dX11_part_51 rfl (lv_at hl 0 rfl) ?_
        refine g_X11_45 hF hW dX11_part_52 ?_
        refine lv_iload_n hx hb dX11_part_55 rfl (lv_at hl 1 rfl) ?_
        obtain ⟨M17, hc18, h⟩ := bm_some h
        refine cV_v (ci := 3) (q0 := 26) (rest := []) hF hW mw_X11_338 (c_X3_partRows l K a d hc18) ⟨Nat.le_of_ble_eq_true rfl, Nat.le_of_ble_eq_true rfl⟩ rfl rfl (pC_26 K a d _) rfl hl.1 rfl (Nat.le_of_ble_eq_true rfl) dX11_part_56 ⟨Nat.le_of_ble_eq_true rfl, Nat.le_of_ble_eq_true rfl⟩ (fun _ H locs hW => ?_)
        refine lv_aload_n hx hb dX11_part_59 rfl (lv_at hl 0 rfl) ?_
        obtain ⟨r19, M20, hc21, h⟩ := bd_some h
        refine cV_i (ci := 11) (q0 := 0) (rest := []) hF hW mw_X11_301 (c_X11_turned l K a d hc21) ⟨Nat.le_of_ble_eq_true rfl, Nat.le_of_ble_eq_true rfl⟩ rfl rfl (pC_0 K a d _) rfl hl.1 rfl (Nat.le_of_ble_eq_true rfl) dX11_part_60 ⟨Nat.le_of_ble_eq_true rfl, Nat.le_of_ble_eq_true rfl⟩ (fun _ H locs hW => ?_)
        obtain ⟨rfl, rfl⟩ := Prod.mk.inj (Option.some.inj h)
        refine W.widen (k := 3) (n := 1358) (Nat.le_of_ble_eq_true rfl) (Nat.le_of_ble_eq_true rfl) ?_
        exact rt_i hF hr hk rfl d hW rfl dX11_part_63
      · have h := ifn q12 h
        refine lv_bipush (v := (-6)) hx hb dX11_part_41 (by decide) ?_
        obtain ⟨rfl, rfl⟩ := Prod.mk.inj (Option.some.inj h)
        refine W.widen (k := 3) (n := 1358) (Nat.le_of_ble_eq_true rfl) (Nat.le_of_ble_eq_true rfl) ?_
        exact rt_i hF hr hk rfl d hW rfl dX11_part_43
    · have h := ifn q8 h
      refine lv_aload_n hx hb dX11_part_24 rfl (lv_at hl 0 rfl) ?_
      refine lv_iconst (v := 3) hx hb dX11_part_25 (by decide) ?_
      obtain ⟨r22, M23, hc24, h⟩ := bd_some h
      refine cV_i (ci := 11) (q0 := 0) (rest := []) hF hW mw_X11_163 (c_X11_meet l K a d hc24) ⟨Nat.le_of_ble_eq_true rfl, Nat.le_of_ble_eq_true rfl⟩ rfl rfl (pC_0 K a d _) rfl hl.1 rfl (Nat.le_of_ble_eq_true rfl) dX11_part_26 ⟨Nat.le_of_ble_eq_true rfl, Nat.le_of_ble_eq_true rfl⟩ (fun _ H locs hW => ?_)
      obtain ⟨rfl, rfl⟩ := Prod.mk.inj (Option.some.inj h)
      refine W.widen (k := 3) (n := 1358) (Nat.le_of_ble_eq_true rfl) (Nat.le_of_ble_eq_true rfl) ?_
      exact rt_i hF hr hk rfl d hW rfl dX11_part_29
  · have h := ifn q4 h
    refine lv_iconst (v := (-1)) hx hb dX11_part_11 (by decide) ?_
    obtain ⟨rfl, rfl⟩ := Prod.mk.inj (Option.some.inj h)
    refine W.widen (k := 3) (n := 1358) (Nat.le_of_ble_eq_true rfl) (Nat.le_of_ble_eq_true rfl) ?_
    exact rt_i hF hr hk rfl d hW rfl dX11_part_12
set_option maxRecDepth 100000 in
set_option maxHeartbeats 1000000 in
theorem c_X11_join (l : Launch) (K : Kx) (a d : Nat → Nat) {M M0 : Mem} {x1 : Int32} {x2 : Int32} {r0 : Int32} (h : f_X11_join M x1 x2 = some (r0, M0)) : CMi l yX11_join cX11_join 4 (some .int) ({ frames := 4, cells := 3, slots := 1358, locals := 104 } : Room) K [.ref (a 0), .int x1, .int x2] (wC K a d M) (fun d => wC K a d M0) r0 := by
  refine cs_i (by decide +kernel) (Nat.le_of_ble_eq_true rfl) ?_
  intro p e s m args below meth c A ls hF hr hk hnm hW hl
  have hx := hF.1
  have hb := hF.2.1
  have hl : lv_has ls 4 [(0, .ref (a 0)), (1, .int x1), (2, .int x2)] := hl
  obtain ⟨H, hH⟩ : ∃ z, z = s.heap := ⟨_, rfl⟩
  rw [← hH] at hW ⊢
  have J46 : ∀ (M : Mem) (d : Nat → Nat) (H : Heap) (locs : List Loc) (ls : Array Slot), f_X11_join_46 M = some (r0, M0) → Wd K A s (wC K a d M) H locs → lv_has ls 4 [(0, .ref (a 0))] → W p l e ({ frames := 4, cells := 3, slots := 1358, locals := 104 } : Room) s m args below meth c H locs 0 0 (EndI K A (fun d => wC K a d M0) r0 below args s ({ frames := 4, cells := 3, slots := 1358, locals := 104 } : Room)) (F0 m 46 ls []) := by
    intro M d H locs ls h hW hl
    unfold f_X11_join_46 at h
    refine lv_aload_n hx hb dX11_join_46 rfl (lv_at hl 0 rfl) ?_
    refine lv_iconst (v := 3) hx hb dX11_join_47 (by decide) ?_
    obtain ⟨r34, M35, hc36, h⟩ := bd_some h
    refine cV_i (ci := 11) (q0 := 0) (rest := []) hF hW mw_X11_163 (c_X11_meet l K a d hc36) ⟨Nat.le_of_ble_eq_true rfl, Nat.le_of_ble_eq_true rfl⟩ rfl rfl (pC_0 K a d _) rfl hl.1 rfl (Nat.le_of_ble_eq_true rfl) dX11_join_48 ⟨Nat.le_of_ble_eq_true rfl, Nat.le_of_ble_eq_true rfl⟩ (fun _ H locs hW => ?_)
    obtain ⟨rfl, rfl⟩ := Prod.mk.inj (Option.some.inj h)
    refine W.widen (k := 3) (n := 1358) (Nat.le_of_ble_eq_true rfl) (Nat.le_of_ble_eq_true rfl) ?_
    exact rt_i hF hr hk rfl d hW rfl dX11_join_51
  unfold f_X11_join at h
  refine lv_aload_n hx hb dX11_join_0 rfl (lv_at hl 0 rfl) ?_
  refine g_X11_19 hF hW dX11_join_1 ?_
  refine lv_iload_n hx hb dX11_join_4 rfl (lv_at hl 1 rfl) ?_
  obtain ⟨r1, hc3, h⟩ := bq_some h
  refine cV_i (ci := 2) (q0 := 5) (rest := []) hF hW mw_X11_152 (c_X2_known l K a d hc3) ⟨Nat.le_of_ble_eq_true rfl, Nat.le_of_ble_eq_true rfl⟩ rfl rfl (pC_5 K a d _) rfl hl.1 rfl (Nat.le_of_ble_eq_true rfl) dX11_join_5 ⟨Nat.le_of_ble_eq_true rfl, Nat.le_of_ble_eq_true rfl⟩ (fun _ H locs hW => ?_)
  refine lz_eq (tgt := 22) hx hb dX11_join_8 (by decide) (fun q4 => ?_) (fun q4 => ?_)
  · have h := ifn q4 h
    refine lv_iconst (v := (-1)) hx hb dX11_join_22 (by decide) ?_
    obtain ⟨rfl, rfl⟩ := Prod.mk.inj (Option.some.inj h)
    refine W.widen (k := 3) (n := 1358) (Nat.le_of_ble_eq_true rfl) (Nat.le_of_ble_eq_true rfl) ?_
    exact rt_i hF hr hk rfl d hW rfl dX11_join_23
  · have h := ifp q4 h
    refine lv_aload_n hx hb dX11_join_11 rfl (lv_at hl 0 rfl) ?_
    refine g_X11_19 hF hW dX11_join_12 ?_
    refine lv_iload_n hx hb dX11_join_15 rfl (lv_at hl 2 rfl) ?_
    obtain ⟨r5, hc7, h⟩ := bq_some h
    refine cV_i (ci := 2) (q0 := 5) (rest := []) hF hW mw_X11_152 (c_X2_known l K a d hc7) ⟨Nat.le_of_ble_eq_true rfl, Nat.le_of_ble_eq_true rfl⟩ rfl rfl (pC_5 K a d _) rfl hl.1 rfl (Nat.le_of_ble_eq_true rfl) dX11_join_16 ⟨Nat.le_of_ble_eq_true rfl, Nat.le_of_ble_eq_true rfl⟩ (fun _ H locs hW => ?_)
    refine lz_ne (tgt := 24) hx hb dX11_join_19 (by decide) (fun q8 => ?_) (fun q8 => ?_)
    · have h := ifp q8 h
      refine lv_aload_n hx hb dX11_join_24 rfl (lv_at hl 0 rfl) ?_
      refine g_X11_19 hF hW dX11_join_25 ?_
      refine lv_iload_n hx hb dX11_join_28 rfl (lv_at hl 1 rfl) ?_
      obtain ⟨r9, hc11, h⟩ := bq_some h
      refine cV_i (ci := 2) (q0 := 5) (rest := []) hF hW mw_X11_289 (c_X2_isLoop l K a d hc11) ⟨Nat.le_of_ble_eq_true rfl, Nat.le_of_ble_eq_true rfl⟩ rfl rfl (pC_5 K a d _) rfl hl.1 rfl (Nat.le_of_ble_eq_true rfl) dX11_join_29 ⟨Nat.le_of_ble_eq_true rfl, Nat.le_of_ble_eq_true rfl⟩ (fun _ H locs hW => ?_)
      refine lz_eq (tgt := 46) hx hb dX11_join_32 (by decide) (fun q12 => ?_) (fun q12 => ?_)
      · have h := ifn q12 h
        exact J46 _ _ _ _ _ h hW (lv_sub hl [0] rfl)
      · have h := ifp q12 h
        refine lv_aload_n hx hb dX11_join_35 rfl (lv_at hl 0 rfl) ?_
        refine g_X11_19 hF hW dX11_join_36 ?_
        refine lv_iload_n hx hb dX11_join_39 rfl (lv_at hl 2 rfl) ?_
        obtain ⟨r13, hc15, h⟩ := bq_some h
        refine cV_i (ci := 2) (q0 := 5) (rest := []) hF hW mw_X11_289 (c_X2_isLoop l K a d hc15) ⟨Nat.le_of_ble_eq_true rfl, Nat.le_of_ble_eq_true rfl⟩ rfl rfl (pC_5 K a d _) rfl hl.1 rfl (Nat.le_of_ble_eq_true rfl) dX11_join_40 ⟨Nat.le_of_ble_eq_true rfl, Nat.le_of_ble_eq_true rfl⟩ (fun _ H locs hW => ?_)
        refine lz_ne (tgt := 52) hx hb dX11_join_43 (by decide) (fun q16 => ?_) (fun q16 => ?_)
        · have h := ifp q16 h
          refine lv_aload_n hx hb dX11_join_52 rfl (lv_at hl 0 rfl) ?_
          refine g_X11_19 hF hW dX11_join_53 ?_
          refine g_X11_341 hF hW dX11_join_56 ?_
          refine lv_iload_n hx hb dX11_join_59 rfl (lv_at hl 1 rfl) ?_
          obtain ⟨q17, h⟩ := ck_some h
          refine w_ild hF hW (pC_10 K a d _) q17 dX11_join_60 ?_
          refine lv_aload_n hx hb dX11_join_61 rfl (lv_at hl 0 rfl) ?_
          refine g_X11_19 hF hW dX11_join_62 ?_
          refine g_X11_341 hF hW dX11_join_65 ?_
          refine lv_iload_n hx hb dX11_join_68 rfl (lv_at hl 2 rfl) ?_
          obtain ⟨q18, h⟩ := ck_some h
          refine w_ild hF hW (pC_10 K a d _) q18 dX11_join_69 ?_
          refine lv_icmp_ne (tgt := 78) hx hb dX11_join_70 (by decide) (fun q19 => ?_) (fun q19 => ?_)
          · have h := ifn q19 h
            refine lv_iconst (v := (-1)) hx hb dX11_join_78 (by decide) ?_
            obtain ⟨rfl, rfl⟩ := Prod.mk.inj (Option.some.inj h)
            refine W.widen (k := 3) (n := 1358) (Nat.le_of_ble_eq_true rfl) (Nat.le_of_ble_eq_true rfl) ?_
            exact rt_i hF hr hk rfl d hW rfl dX11_join_79
          · have h := ifp q19 h
            refine lv_iload_n hx hb dX11_join_73 rfl (lv_at hl 2 rfl) ?_
            refine lv_iload_n hx hb dX11_join_74 rfl (lv_at hl 1 rfl) ?_
            refine lv_icmp_gt (tgt := 80) hx hb dX11_join_75 (by decide) (fun q20 => ?_) (fun q20 => ?_)
            · have h := ifp q20 h
              refine lv_aload_n hx hb dX11_join_80 rfl (lv_at hl 0 rfl) ?_
              refine g_X11_19 hF hW dX11_join_81 ?_
              refine lv_iload_n hx hb dX11_join_84 rfl (lv_at hl 1 rfl) ?_
              obtain ⟨r21, hc23, h⟩ := bq_some h
              refine cV_i (ci := 2) (q0 := 5) (rest := []) hF hW mw_X11_344 (c_X2_firstActIn l K a d hc23) ⟨Nat.le_of_ble_eq_true rfl, Nat.le_of_ble_eq_true rfl⟩ rfl rfl (pC_5 K a d _) rfl hl.1 rfl (Nat.le_of_ble_eq_true rfl) dX11_join_85 ⟨Nat.le_of_ble_eq_true rfl, Nat.le_of_ble_eq_true rfl⟩ (fun _ H locs hW => ?_)
              refine lv_istore_n (lv' := [(3, .int r21), (0, .ref (a 0)), (1, .int x1), (2, .int x2)]) hx hb dX11_join_88 rfl hl (by decide) rfl (fun ls hl => ?_)
              refine lv_iload_n hx hb dX11_join_89 rfl (lv_at hl 0 rfl) ?_
              refine lv_if_ge (tgt := 95) hx hb dX11_join_90 (by decide) (fun q24 => ?_) (fun q24 => ?_)
              · have h := ifp q24 h
                refine lv_aload_n hx hb dX11_join_95 rfl (lv_at hl 1 rfl) ?_
                refine g_X11_45 hF hW dX11_join_96 ?_
                obtain ⟨M26, hc27, h⟩ := bm_some h
                refine cV_v (ci := 3) (q0 := 26) (rest := []) hF hW mw_X11_295 (c_X3_keep l K a d hc27) ⟨Nat.le_of_ble_eq_true rfl, Nat.le_of_ble_eq_true rfl⟩ rfl rfl (pC_26 K a d _) rfl hl.1 rfl (Nat.le_of_ble_eq_true rfl) dX11_join_99 ⟨Nat.le_of_ble_eq_true rfl, Nat.le_of_ble_eq_true rfl⟩ (fun d H locs hW => ?_)
                refine lv_aload_n hx hb dX11_join_102 rfl (lv_at hl 1 rfl) ?_
                refine g_X11_45 hF hW dX11_join_103 ?_
                refine lv_iload_n hx hb dX11_join_106 rfl (lv_at hl 0 rfl) ?_
                refine lv_iload_n hx hb dX11_join_107 rfl (lv_at hl 3 rfl) ?_
                obtain ⟨M29, hc30, h⟩ := bm_some h
                refine cV_v (ci := 3) (q0 := 26) (rest := []) hF hW mw_X11_347 (c_X3_joinRows l K a d hc30) ⟨Nat.le_of_ble_eq_true rfl, Nat.le_of_ble_eq_true rfl⟩ rfl rfl (pC_26 K a d _) rfl hl.1 rfl (Nat.le_of_ble_eq_true rfl) dX11_join_108 ⟨Nat.le_of_ble_eq_true rfl, Nat.le_of_ble_eq_true rfl⟩ (fun _ H locs hW => ?_)
                refine lv_aload_n hx hb dX11_join_111 rfl (lv_at hl 1 rfl) ?_
                obtain ⟨r31, M32, hc33, h⟩ := bd_some h
                refine cV_i (ci := 11) (q0 := 0) (rest := []) hF hW mw_X11_301 (c_X11_turned l K a d hc33) ⟨Nat.le_of_ble_eq_true rfl, Nat.le_of_ble_eq_true rfl⟩ rfl rfl (pC_0 K a d _) rfl hl.1 rfl (Nat.le_of_ble_eq_true rfl) dX11_join_112 ⟨Nat.le_of_ble_eq_true rfl, Nat.le_of_ble_eq_true rfl⟩ (fun _ H locs hW => ?_)
                obtain ⟨rfl, rfl⟩ := Prod.mk.inj (Option.some.inj h)
                refine W.widen (k := 3) (n := 1358) (Nat.le_of_ble_eq_true rfl) (Nat.le_of_ble_eq_true rfl) ?_
                exact rt_i hF hr hk rfl d hW rfl dX11_join_115
              · have h := ifn q24 h
                refine lv_iconst (v := (-1)) hx hb dX11_join_93 (by decide) ?_
                obtain ⟨rfl, rfl⟩ := Prod.mk.inj (Option.some.inj h)
                refine W.widen (k := 3) (n := 1358) (Nat.le_of_ble_eq_true rfl) (Nat.le_of_ble_eq_true rfl) ?_
                exact rt_i hF hr hk rfl d hW rfl dX11_join_94
            · have h := ifn q20 h
              refine lv_iconst (v := (-1)) hx hb dX11_join_78 (by decide) ?_
              obtain ⟨rfl, rfl⟩ := Prod.mk.inj (Option.some.inj h)
              refine W.widen (k := 3) (n := 1358) (Nat.le_of_ble_eq_true rfl) (Nat.le_of_ble_eq_true rfl) ?_
              exact rt_i hF hr hk rfl d hW rfl dX11_join_79
        · have h := ifn q16 h
          exact J46 _ _ _ _ _ h hW (lv_sub hl [0] rfl)
    · have h := ifn q8 h
      refine lv_iconst (v := (-1)) hx hb dX11_join_22 (by decide) ?_
      obtain ⟨rfl, rfl⟩ := Prod.mk.inj (Option.some.inj h)
      refine W.widen (k := 3) (n := 1358) (Nat.le_of_ble_eq_true rfl) (Nat.le_of_ble_eq_true rfl) ?_
      exact rt_i hF hr hk rfl d hW rfl dX11_join_23
set_option maxRecDepth 100000 in
set_option maxHeartbeats 1000000 in
theorem c_X11_best (l : Launch) (K : Kx) (a d : Nat → Nat) {M M0 : Mem} {x1 : Int32} {x2 : Int32} {x3 : Int32} {r0 : Int32} (h : f_X11_best M x1 x2 x3 = some (r0, M0)) : CMi l yX11_best cX11_best 9 (some .int) ({ frames := 543, cells := 3, slots := 1358, locals := 27064 } : Room) K [.ref (a 0), .int x1, .int x2, .int x3] (wC K a d M) (fun d => wC K a d M0) r0 := by
  refine cs_i (by decide +kernel) (Nat.le_of_ble_eq_true rfl) ?_
  intro p e s m args below meth c A ls hF hr hk hnm hW hl
  have hx := hF.1
  have hb := hF.2.1
  have hl : lv_has ls 9 [(0, .ref (a 0)), (1, .int x1), (2, .int x2), (3, .int x3)] := hl
  obtain ⟨H, hH⟩ : ∃ z, z = s.heap := ⟨_, rfl⟩
  rw [← hH] at hW ⊢
  have J66 : ∀ (n66 : Nat) (x1 : Int32) (x2 : Int32) (x3 : Int32) (x4 : Int32) (x5 : Int32) (x6 : Int32) (x7 : Int32) (M : Mem) (d : Nat → Nat) (H : Heap) (locs : List Loc) (ls : Array Slot), f_X11_best_66 n66 x1 x2 x3 x4 x5 x6 x7 M = some (r0, M0) → Wd K A s (wC K a d M) H locs → lv_has ls 9 [(0, .ref (a 0)), (1, .int x1), (2, .int x2), (3, .int x3), (4, .int x4), (5, .int x5), (6, .int x6), (7, .int x7)] → W p l e ({ frames := 543, cells := 3, slots := 1358, locals := 27064 } : Room) s m args below meth c H locs 0 0 (EndI K A (fun d => wC K a d M0) r0 below args s ({ frames := 543, cells := 3, slots := 1358, locals := 27064 } : Room)) (F0 m 66 ls []) := by
    intro n66
    induction n66 with
    | zero => intro x1 x2 x3 x4 x5 x6 x7 M d H locs ls h; exact absurd h (by simp [f_X11_best_66])
    | succ n66 ih66 =>
      have J134 : ∀ (x4 : Int32) (M : Mem) (d : Nat → Nat) (H : Heap) (locs : List Loc) (ls : Array Slot), f_X11_best_134 x4 M = some (r0, M0) → Wd K A s (wC K a d M) H locs → lv_has ls 9 [(0, .ref (a 0)), (4, .int x4)] → W p l e ({ frames := 543, cells := 3, slots := 1358, locals := 27064 } : Room) s m args below meth c H locs 3 1358 (EndI K A (fun d => wC K a d M0) r0 below args s ({ frames := 543, cells := 3, slots := 1358, locals := 27064 } : Room)) (F0 m 134 ls []) := by
        intro x4 M d H locs ls h hW hl
        unfold f_X11_best_134 at h
        refine lv_aload_n hx hb dX11_best_134 rfl (lv_at hl 0 rfl) ?_
        obtain ⟨M38, hc39, h⟩ := bm_some h
        refine cV_v (ci := 11) (q0 := 0) (rest := []) hF hW mw_X11_356 (c_X11_ordersChanged l K a d hc39) ⟨Nat.le_of_ble_eq_true rfl, Nat.le_of_ble_eq_true rfl⟩ rfl rfl (pC_0 K a d _) rfl hl.1 rfl (Nat.le_of_ble_eq_true rfl) dX11_best_135 ⟨Nat.le_of_ble_eq_true rfl, Nat.le_of_ble_eq_true rfl⟩ (fun _ H locs hW => ?_)
        refine lv_iload hx hb dX11_best_138 (lv_at hl 1 rfl) ?_
        obtain ⟨rfl, rfl⟩ := Prod.mk.inj (Option.some.inj h)
        refine W.widen (k := 3) (n := 1358) (Nat.le_of_ble_eq_true rfl) (Nat.le_of_ble_eq_true rfl) ?_
        exact rt_i hF hr hk rfl d hW rfl dX11_best_140
      intro x1 x2 x3 x4 x5 x6 x7 M d H locs ls h hW hl
      rw [f_X11_best_66] at h
      refine lv_iload hx hb dX11_best_66 (lv_at hl 7 rfl) ?_
      refine lv_iload hx hb dX11_best_68 (lv_at hl 6 rfl) ?_
      refine lv_icmp_ge (tgt := 115) hx hb dX11_best_70 (by decide) (fun q23 => ?_) (fun q23 => ?_)
      · have h := ifp q23 h
        refine lv_iload hx hb dX11_best_115 (lv_at hl 5 rfl) ?_
        refine lv_if_le (tgt := 134) hx hb dX11_best_117 (by decide) (fun q24 => ?_) (fun q24 => ?_)
        · have h := ifp q24 h
          refine W.widen (k := 3) (n := 1358) (Nat.le_of_ble_eq_true rfl) (Nat.le_of_ble_eq_true rfl) ?_
          exact J134 x4 _ _ _ _ _ h hW (lv_sub hl [0, 4] rfl)
        · have h := ifn q24 h
          refine lv_aload_n hx hb dX11_best_120 rfl (lv_at hl 0 rfl) ?_
          refine g_X11_45 hF hW dX11_best_121 ?_
          obtain ⟨M26, hc27, h⟩ := bm_some h
          refine cV_v (ci := 3) (q0 := 26) (rest := []) hF hW mw_X11_295 (c_X3_keep l K a d hc27) ⟨Nat.le_of_ble_eq_true rfl, Nat.le_of_ble_eq_true rfl⟩ rfl rfl (pC_26 K a d _) rfl hl.1 rfl (Nat.le_of_ble_eq_true rfl) dX11_best_124 ⟨Nat.le_of_ble_eq_true rfl, Nat.le_of_ble_eq_true rfl⟩ (fun d H locs hW => ?_)
          refine lv_aload_n hx hb dX11_best_127 rfl (lv_at hl 0 rfl) ?_
          refine lv_iload_n hx hb dX11_best_128 rfl (lv_at hl 1 rfl) ?_
          refine lv_iload hx hb dX11_best_129 (lv_at hl 5 rfl) ?_
          obtain ⟨M29, hc30, h⟩ := bm_some h
          refine cV_v (ci := 11) (q0 := 0) (rest := []) hF hW mw_X11_397 (c_X11_makeChoice l K a d hc30) ⟨Nat.le_of_ble_eq_true rfl, Nat.le_of_ble_eq_true rfl⟩ rfl rfl (pC_0 K a d _) rfl hl.1 rfl (Nat.le_of_ble_eq_true rfl) dX11_best_131 ⟨Nat.le_of_ble_eq_true rfl, Nat.le_of_ble_eq_true rfl⟩ (fun _ H locs hW => ?_)
          refine W.widen (k := 3) (n := 1358) (Nat.le_of_ble_eq_true rfl) (Nat.le_of_ble_eq_true rfl) ?_
          exact J134 x4 _ _ _ _ _ h hW (lv_sub hl [0, 4] rfl)
      · have h := ifn q23 h
        refine lv_aload_n hx hb dX11_best_73 rfl (lv_at hl 0 rfl) ?_
        refine lv_iload_n hx hb dX11_best_74 rfl (lv_at hl 1 rfl) ?_
        refine lv_iload hx hb dX11_best_75 (lv_at hl 7 rfl) ?_
        refine lv_iload_n hx hb dX11_best_77 rfl (lv_at hl 2 rfl) ?_
        refine lv_iload_n hx hb dX11_best_78 rfl (lv_at hl 3 rfl) ?_
        obtain ⟨r31, M32, hc33, h⟩ := bd_some h
        refine cV_i (ci := 11) (q0 := 0) (rest := []) hF hW mw_X11_394 (c_X11_tryChoice l K a d hc33) ⟨Nat.le_of_ble_eq_true rfl, Nat.le_of_ble_eq_true rfl⟩ rfl rfl (pC_0 K a d _) rfl hl.1 rfl (Nat.le_of_ble_eq_true rfl) dX11_best_79 ⟨Nat.le_of_ble_eq_true rfl, Nat.le_of_ble_eq_true rfl⟩ (fun _ H locs hW => ?_)
        refine lv_istore (lv' := [(8, .int r31), (0, .ref (a 0)), (1, .int x1), (2, .int x2), (3, .int x3), (4, .int x4), (5, .int x5), (6, .int x6), (7, .int x7)]) hx hb dX11_best_82 hl (by decide) rfl (fun ls hl => ?_)
        refine lv_iload hx hb dX11_best_84 (lv_at hl 0 rfl) ?_
        refine lv_if_lt (tgt := 109) hx hb dX11_best_86 (by decide) (fun q34 => ?_) (fun q34 => ?_)
        · have h := ifp q34 h
          refine lv_iinc (v := (x7 + 1)) (lv' := [(7, .int (x7 + 1)), (8, .int r31), (0, .ref (a 0)), (1, .int x1), (2, .int x2), (3, .int x3), (4, .int x4), (5, .int x5), (6, .int x6)]) hx hb dX11_best_109 hl (k := 8) rfl rfl (by decide) rfl (fun ls hl => ?_)
          refine lv_goto (tgt := 66) hx hb dX11_best_112 (by decide) ?_
          exact ih66 x1 x2 x3 x4 x5 x6 (x7 + 1) _ _ _ _ _ h hW (lv_sub hl [2, 3, 4, 5, 6, 7, 8, 0] rfl)
        · have h := ifn q34 h
          refine lv_iload hx hb dX11_best_89 (lv_at hl 5 rfl) ?_
          refine lv_if_lt (tgt := 101) hx hb dX11_best_91 (by decide) (fun q35 => ?_) (fun q35 => ?_)
          · have h := ifp q35 h
            refine lv_iload hx hb dX11_best_101 (lv_at hl 0 rfl) ?_
            refine lv_istore (lv' := [(4, .int r31), (8, .int r31), (0, .ref (a 0)), (1, .int x1), (2, .int x2), (3, .int x3), (5, .int x5), (6, .int x6), (7, .int x7)]) hx hb dX11_best_103 hl (by decide) rfl (fun ls hl => ?_)
            refine lv_iload hx hb dX11_best_105 (lv_at hl 8 rfl) ?_
            refine lv_istore (lv' := [(5, .int x7), (4, .int r31), (8, .int r31), (0, .ref (a 0)), (1, .int x1), (2, .int x2), (3, .int x3), (6, .int x6), (7, .int x7)]) hx hb dX11_best_107 hl (by decide) rfl (fun ls hl => ?_)
            refine lv_iinc (v := (x7 + 1)) (lv' := [(7, .int (x7 + 1)), (5, .int x7), (4, .int r31), (8, .int r31), (0, .ref (a 0)), (1, .int x1), (2, .int x2), (3, .int x3), (6, .int x6)]) hx hb dX11_best_109 hl (k := 8) rfl rfl (by decide) rfl (fun ls hl => ?_)
            refine lv_goto (tgt := 66) hx hb dX11_best_112 (by decide) ?_
            exact ih66 x1 x2 x3 r31 x7 x6 (x7 + 1) _ _ _ _ _ h hW (lv_sub hl [4, 5, 6, 7, 2, 1, 8, 0] rfl)
          · have h := ifn q35 h
            refine lv_iload hx hb dX11_best_94 (lv_at hl 0 rfl) ?_
            refine lv_iload hx hb dX11_best_96 (lv_at hl 5 rfl) ?_
            refine lv_icmp_ge (tgt := 109) hx hb dX11_best_98 (by decide) (fun q36 => ?_) (fun q36 => ?_)
            · have h := ifp q36 h
              refine lv_iinc (v := (x7 + 1)) (lv' := [(7, .int (x7 + 1)), (8, .int r31), (0, .ref (a 0)), (1, .int x1), (2, .int x2), (3, .int x3), (4, .int x4), (5, .int x5), (6, .int x6)]) hx hb dX11_best_109 hl (k := 8) rfl rfl (by decide) rfl (fun ls hl => ?_)
              refine lv_goto (tgt := 66) hx hb dX11_best_112 (by decide) ?_
              exact ih66 x1 x2 x3 x4 x5 x6 (x7 + 1) _ _ _ _ _ h hW (lv_sub hl [2, 3, 4, 5, 6, 7, 8, 0] rfl)
            · have h := ifn q36 h
              refine lv_iload hx hb dX11_best_101 (lv_at hl 0 rfl) ?_
              refine lv_istore (lv' := [(4, .int r31), (8, .int r31), (0, .ref (a 0)), (1, .int x1), (2, .int x2), (3, .int x3), (5, .int x5), (6, .int x6), (7, .int x7)]) hx hb dX11_best_103 hl (by decide) rfl (fun ls hl => ?_)
              refine lv_iload hx hb dX11_best_105 (lv_at hl 8 rfl) ?_
              refine lv_istore (lv' := [(5, .int x7), (4, .int r31), (8, .int r31), (0, .ref (a 0)), (1, .int x1), (2, .int x2), (3, .int x3), (6, .int x6), (7, .int x7)]) hx hb dX11_best_107 hl (by decide) rfl (fun ls hl => ?_)
              refine lv_iinc (v := (x7 + 1)) (lv' := [(7, .int (x7 + 1)), (5, .int x7), (4, .int r31), (8, .int r31), (0, .ref (a 0)), (1, .int x1), (2, .int x2), (3, .int x3), (6, .int x6)]) hx hb dX11_best_109 hl (k := 8) rfl rfl (by decide) rfl (fun ls hl => ?_)
              refine lv_goto (tgt := 66) hx hb dX11_best_112 (by decide) ?_
              exact ih66 x1 x2 x3 r31 x7 x6 (x7 + 1) _ _ _ _ _ h hW (lv_sub hl [4, 5, 6, 7, 2, 1, 8, 0] rfl)
  unfold f_X11_best at h
  refine lv_aload_n hx hb dX11_best_0 rfl (lv_at hl 0 rfl) ?_
  refine g_X11_19 hF hW dX11_best_1 ?_
  refine lv_iload_n hx hb dX11_best_4 rfl (lv_at hl 1 rfl) ?_
  obtain ⟨r1, hc3, h⟩ := bq_some h
  refine cV_i (ci := 2) (q0 := 5) (rest := []) hF hW mw_X11_152 (c_X2_known l K a d hc3) ⟨Nat.le_of_ble_eq_true rfl, Nat.le_of_ble_eq_true rfl⟩ rfl rfl (pC_5 K a d _) rfl hl.1 rfl (Nat.le_of_ble_eq_true rfl) dX11_best_5 ⟨Nat.le_of_ble_eq_true rfl, Nat.le_of_ble_eq_true rfl⟩ (fun _ H locs hW => ?_)
  refine lz_eq (tgt := 19) hx hb dX11_best_8 (by decide) (fun q4 => ?_) (fun q4 => ?_)
  · have h := ifn q4 h
    refine lv_iconst (v := (-1)) hx hb dX11_best_19 (by decide) ?_
    obtain ⟨rfl, rfl⟩ := Prod.mk.inj (Option.some.inj h)
    refine W.widen (k := 3) (n := 1358) (Nat.le_of_ble_eq_true rfl) (Nat.le_of_ble_eq_true rfl) ?_
    exact rt_i hF hr hk rfl d hW rfl dX11_best_20
  · have h := ifp q4 h
    refine lv_iload_n hx hb dX11_best_11 rfl (lv_at hl 2 rfl) ?_
    refine lv_iload_n hx hb dX11_best_12 rfl (lv_at hl 3 rfl) ?_
    obtain ⟨r5, hc7, h⟩ := bq_some h
    refine cS_i (rest := []) hF hW mw_X11_385 (c_X11_roomFits l K hc7) ⟨Nat.le_of_ble_eq_true rfl, Nat.le_of_ble_eq_true rfl⟩ rfl hl.1 rfl (Nat.le_of_ble_eq_true rfl) dX11_best_13 ⟨Nat.le_of_ble_eq_true rfl, Nat.le_of_ble_eq_true rfl⟩ (fun _ H locs hW => ?_)
    refine lz_ne (tgt := 21) hx hb dX11_best_16 (by decide) (fun q8 => ?_) (fun q8 => ?_)
    · have h := ifp q8 h
      refine lv_aload_n hx hb dX11_best_21 rfl (lv_at hl 0 rfl) ?_
      obtain ⟨r9, M10, hc11, h⟩ := bd_some h
      refine cV_i (ci := 11) (q0 := 0) (rest := []) hF hW mw_X11_244 (c_X11_tooMany l K a d hc11) ⟨Nat.le_of_ble_eq_true rfl, Nat.le_of_ble_eq_true rfl⟩ rfl rfl (pC_0 K a d _) rfl hl.1 rfl (Nat.le_of_ble_eq_true rfl) dX11_best_22 ⟨Nat.le_of_ble_eq_true rfl, Nat.le_of_ble_eq_true rfl⟩ (fun _ H locs hW => ?_)
      refine lz_eq (tgt := 31) hx hb dX11_best_25 (by decide) (fun q12 => ?_) (fun q12 => ?_)
      · have h := ifn q12 h
        refine lv_aload_n hx hb dX11_best_31 rfl (lv_at hl 0 rfl) ?_
        refine g_X11_19 hF hW dX11_best_32 ?_
        refine lv_iload_n hx hb dX11_best_35 rfl (lv_at hl 1 rfl) ?_
        obtain ⟨r13, hc15, h⟩ := bq_some h
        refine cV_i (ci := 2) (q0 := 5) (rest := []) hF hW mw_X11_289 (c_X2_isLoop l K a d hc15) ⟨Nat.le_of_ble_eq_true rfl, Nat.le_of_ble_eq_true rfl⟩ rfl rfl (pC_5 K a d _) rfl hl.1 rfl (Nat.le_of_ble_eq_true rfl) dX11_best_36 ⟨Nat.le_of_ble_eq_true rfl, Nat.le_of_ble_eq_true rfl⟩ (fun _ H locs hW => ?_)
        refine lz_ne (tgt := 48) hx hb dX11_best_39 (by decide) (fun q16 => ?_) (fun q16 => ?_)
        · have h := ifp q16 h
          refine lv_bipush (v := (-9)) hx hb dX11_best_48 (by decide) ?_
          refine lv_istore (lv' := [(4, .int (-9)), (0, .ref (a 0)), (1, .int x1), (2, .int x2), (3, .int x3)]) hx hb dX11_best_50 hl (by decide) rfl (fun ls hl => ?_)
          refine lv_bipush (v := (-9)) hx hb dX11_best_52 (by decide) ?_
          refine lv_istore (lv' := [(5, .int (-9)), (4, .int (-9)), (0, .ref (a 0)), (1, .int x1), (2, .int x2), (3, .int x3)]) hx hb dX11_best_54 hl (by decide) rfl (fun ls hl => ?_)
          refine lv_aload_n hx hb dX11_best_56 rfl (lv_at hl 2 rfl) ?_
          refine lv_iload_n hx hb dX11_best_57 rfl (lv_at hl 3 rfl) ?_
          obtain ⟨r17, hc19, h⟩ := bq_some h
          refine cV_i (ci := 11) (q0 := 0) (rest := []) hF hW mw_X11_391 (c_X11_choicesOf l K a d hc19) ⟨Nat.le_of_ble_eq_true rfl, Nat.le_of_ble_eq_true rfl⟩ rfl rfl (pC_0 K a d _) rfl hl.1 rfl (Nat.le_of_ble_eq_true rfl) dX11_best_58 ⟨Nat.le_of_ble_eq_true rfl, Nat.le_of_ble_eq_true rfl⟩ (fun _ H locs hW => ?_)
          refine lv_istore (lv' := [(6, .int r17), (5, .int (-9)), (4, .int (-9)), (0, .ref (a 0)), (1, .int x1), (2, .int x2), (3, .int x3)]) hx hb dX11_best_61 hl (by decide) rfl (fun ls hl => ?_)
          refine lv_iconst (v := 0) hx hb dX11_best_63 (by decide) ?_
          refine lv_istore (lv' := [(7, .int 0), (6, .int r17), (5, .int (-9)), (4, .int (-9)), (0, .ref (a 0)), (1, .int x1), (2, .int x2), (3, .int x3)]) hx hb dX11_best_64 hl (by decide) rfl (fun ls hl => ?_)
          exact J66 100000 x1 x2 x3 (-9) (-9) r17 0 _ _ _ _ _ h hW (lv_sub hl [4, 5, 6, 7, 3, 2, 1, 0] rfl)
        · have h := ifn q16 h
          refine lv_aload_n hx hb dX11_best_42 rfl (lv_at hl 0 rfl) ?_
          refine lv_iconst (v := 3) hx hb dX11_best_43 (by decide) ?_
          obtain ⟨r20, M21, hc22, h⟩ := bd_some h
          refine cV_i (ci := 11) (q0 := 0) (rest := []) hF hW mw_X11_163 (c_X11_meet l K a d hc22) ⟨Nat.le_of_ble_eq_true rfl, Nat.le_of_ble_eq_true rfl⟩ rfl rfl (pC_0 K a d _) rfl hl.1 rfl (Nat.le_of_ble_eq_true rfl) dX11_best_44 ⟨Nat.le_of_ble_eq_true rfl, Nat.le_of_ble_eq_true rfl⟩ (fun _ H locs hW => ?_)
          obtain ⟨rfl, rfl⟩ := Prod.mk.inj (Option.some.inj h)
          refine W.widen (k := 3) (n := 1358) (Nat.le_of_ble_eq_true rfl) (Nat.le_of_ble_eq_true rfl) ?_
          exact rt_i hF hr hk rfl d hW rfl dX11_best_47
      · have h := ifp q12 h
        refine lv_bipush (v := (-6)) hx hb dX11_best_28 (by decide) ?_
        obtain ⟨rfl, rfl⟩ := Prod.mk.inj (Option.some.inj h)
        refine W.widen (k := 3) (n := 1358) (Nat.le_of_ble_eq_true rfl) (Nat.le_of_ble_eq_true rfl) ?_
        exact rt_i hF hr hk rfl d hW rfl dX11_best_30
    · have h := ifn q8 h
      refine lv_iconst (v := (-1)) hx hb dX11_best_19 (by decide) ?_
      obtain ⟨rfl, rfl⟩ := Prod.mk.inj (Option.some.inj h)
      refine W.widen (k := 3) (n := 1358) (Nat.le_of_ble_eq_true rfl) (Nat.le_of_ble_eq_true rfl) ?_
      exact rt_i hF hr hk rfl d hW rfl dX11_best_20
