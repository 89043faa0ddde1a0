set_option maxRecDepth 100000 in
set_option maxHeartbeats 1000000 in
theorem c_X12_lay (l : Launch) (K : Kx) (a : Nat → Nat) {M M0 : Mem} {x1 : Int32} {x2 : Int32} {x3 : Int32} {x4 : Int64} {r0 : Int32} (h : f_X12_lay M x1 x2 x3 x4 = some (r0, M0)) : CMi l yX12_lay cX12_lay 7 (some .int) ({ frames := 2, cells := 0, slots := 0, locals := 51 } : Room) K [.ref (a 0), .int x1, .int x2, .int x3, .long x4] (wM K a M) (fun _ => wM K a M0) r0 := by
  refine cs_i (by decide +kernel) (Nat.le_of_ble_eq_true rfl) ?_
  intro p e s m args below meth c A ls hF hr hk hnm hW hl
  have hx := hF.1
  have hb := hF.2.1
  have hl : lv_has ls 7 [(0, .ref (a 0)), (1, .int x1), (2, .int x2), (3, .int x3), (4, .long x4)] := hl
  obtain ⟨H, hH⟩ : ∃ z, z = s.heap := ⟨_, rfl⟩
  rw [← hH] at hW ⊢
  unfold f_X12_lay at h
  refine lv_aload_n hx hb dX12_lay_0 rfl (lv_at hl 0 rfl) ?_
  refine lv_iload_n hx hb dX12_lay_1 rfl (lv_at hl 1 rfl) ?_
  obtain ⟨r1, hc3, h⟩ := bq_some h
  refine cV_i (ci := 12) (q0 := 0) (rest := []) hF hW mw_X12_214 (c_X12_isArray l K a hc3) ⟨Nat.le_of_ble_eq_true rfl, Nat.le_of_ble_eq_true rfl⟩ rfl rfl (pM_0 K a _) rfl hl.1 rfl (Nat.le_of_ble_eq_true rfl) dX12_lay_2 ⟨Nat.le_of_ble_eq_true rfl, Nat.le_of_ble_eq_true rfl⟩ (fun _ H locs hW => ?_)
  refine lz_ne (tgt := 10) hx hb dX12_lay_5 (by decide) (fun q4 => ?_) (fun q4 => ?_)
  · have h := ifp q4 h
    refine lv_aload_n hx hb dX12_lay_10 rfl (lv_at hl 0 rfl) ?_
    refine lv_iload_n hx hb dX12_lay_11 rfl (lv_at hl 1 rfl) ?_
    refine lv_iload_n hx hb dX12_lay_12 rfl (lv_at hl 2 rfl) ?_
    refine lv_i2l hx hb dX12_lay_13 rfl ?_
    refine lv_iload_n hx hb dX12_lay_14 rfl (lv_at hl 3 rfl) ?_
    refine lv_i2l hx hb dX12_lay_15 rfl ?_
    obtain ⟨r5, hc7, h⟩ := bq_some h
    refine cV_i (ci := 12) (q0 := 0) (rest := []) hF hW mw_X12_217 (c_X12_lacks l K a hc7) ⟨Nat.le_of_ble_eq_true rfl, Nat.le_of_ble_eq_true rfl⟩ rfl rfl (pM_0 K a _) rfl hl.1 rfl (Nat.le_of_ble_eq_true rfl) dX12_lay_16 ⟨Nat.le_of_ble_eq_true rfl, Nat.le_of_ble_eq_true rfl⟩ (fun _ H locs hW => ?_)
    refine lv_istore (lv' := [(6, .int r5), (0, .ref (a 0)), (1, .int x1), (2, .int x2), (3, .int x3), (4, .long x4)]) hx hb dX12_lay_19 hl (by decide) rfl (fun ls hl => ?_)
    refine lv_iload hx hb dX12_lay_21 (lv_at hl 0 rfl) ?_
    refine lv_if_le (tgt := 33) hx hb dX12_lay_23 (by decide) (fun q8 => ?_) (fun q8 => ?_)
    · have h := ifp q8 h
      refine lv_aload_n hx hb dX12_lay_33 rfl (lv_at hl 1 rfl) ?_
      refine g_X12_75 hF hW dX12_lay_34 ?_
      refine lv_aload_n hx hb dX12_lay_37 rfl (lv_at hl 1 rfl) ?_
      refine lv_iload_n hx hb dX12_lay_38 rfl (lv_at hl 2 rfl) ?_
      refine lv_iload_n hx hb dX12_lay_39 rfl (lv_at hl 3 rfl) ?_
      refine lv_i2l hx hb dX12_lay_40 rfl ?_
      refine lv_iload_n hx hb dX12_lay_41 rfl (lv_at hl 4 rfl) ?_
      refine lv_i2l hx hb dX12_lay_42 rfl ?_
      obtain ⟨r9, hc11, h⟩ := bq_some h
      refine cV_i (ci := 12) (q0 := 0) (rest := [.ref (a 22)]) hF hW mw_X12_221 (c_X12_at l K a hc11) ⟨Nat.le_of_ble_eq_true rfl, Nat.le_of_ble_eq_true rfl⟩ rfl rfl (pM_0 K a _) rfl hl.1 rfl (Nat.le_of_ble_eq_true rfl) dX12_lay_43 ⟨Nat.le_of_ble_eq_true rfl, Nat.le_of_ble_eq_true rfl⟩ (fun _ H locs hW => ?_)
      refine lv_aload_n hx hb dX12_lay_46 rfl (lv_at hl 1 rfl) ?_
      refine g_X12_66 hF hW dX12_lay_47 ?_
      refine lv_iload_n hx hb dX12_lay_50 rfl (lv_at hl 2 rfl) ?_
      obtain ⟨q12, h⟩ := ck_some h
      refine w_ild hF hW (pM_19 K a _) q12 dX12_lay_51 ?_
      refine lv_lload hx hb dX12_lay_52 (lv_at hl 5 rfl) ?_
      obtain ⟨r13, hc15, h⟩ := bq_some h
      refine cS_l (rest := [.int r9, .ref (a 22)]) hF hW mw_X12_224 (c_X12_cut l K hc15) ⟨Nat.le_of_ble_eq_true rfl, Nat.le_of_ble_eq_true rfl⟩ rfl hl.1 rfl (Nat.le_of_ble_eq_true rfl) dX12_lay_54 ⟨Nat.le_of_ble_eq_true rfl, Nat.le_of_ble_eq_true rfl⟩ (fun _ H locs hW => ?_)
      obtain ⟨q16, h⟩ := ck_some h
      refine w_lst hF hW (pM_22 K a _) q16 (uM_22 K a _ _ _) dX12_lay_57 (fun H locs hW => ?_)
      refine lv_iconst (v := 1) hx hb dX12_lay_58 (by decide) ?_
      obtain ⟨rfl, rfl⟩ := Prod.mk.inj (Option.some.inj h)
      exact rt_i hF hr hk rfl (fun _ => 0) hW rfl dX12_lay_59
    · have h := ifn q8 h
      refine lv_aload_n hx hb dX12_lay_26 rfl (lv_at hl 1 rfl) ?_
      refine lv_iload hx hb dX12_lay_27 (lv_at hl 0 rfl) ?_
      obtain ⟨r17, M18, hc19, h⟩ := bd_some h
      refine cV_i (ci := 12) (q0 := 0) (rest := []) hF hW mw_X12_207 (c_X12_meets l K a hc19) ⟨Nat.le_of_ble_eq_true rfl, Nat.le_of_ble_eq_true rfl⟩ rfl rfl (pM_0 K a _) rfl hl.1 rfl (Nat.le_of_ble_eq_true rfl) dX12_lay_29 ⟨Nat.le_of_ble_eq_true rfl, Nat.le_of_ble_eq_true rfl⟩ (fun _ H locs hW => ?_)
      obtain ⟨rfl, rfl⟩ := Prod.mk.inj (Option.some.inj h)
      exact rt_i hF hr hk rfl (fun _ => 0) hW rfl dX12_lay_32
  · have h := ifn q4 h
    refine lv_iconst (v := (-1)) hx hb dX12_lay_8 (by decide) ?_
    obtain ⟨rfl, rfl⟩ := Prod.mk.inj (Option.some.inj h)
    exact rt_i hF hr hk rfl (fun _ => 0) hW rfl dX12_lay_9
set_option maxRecDepth 100000 in
set_option maxHeartbeats 1000000 in
theorem c_X12_get (l : Launch) (K : Kx) (a : Nat → Nat) {M M0 : Mem} {x1 : Int32} {x2 : Int32} {x3 : Int32} {r0 : Int32} (h : f_X12_get M x1 x2 x3 = some (r0, M0)) : CMi l yX12_get cX12_get 5 (some .int) ({ frames := 2, cells := 0, slots := 0, locals := 51 } : Room) K [.ref (a 0), .int x1, .int x2, .int x3] (wM K a M) (fun _ => wM K a M0) r0 := by
  refine cs_i (by decide +kernel) (Nat.le_of_ble_eq_true rfl) ?_
  intro p e s m args below meth c A ls hF hr hk hnm hW hl
  have hx := hF.1
  have hb := hF.2.1
  have hl : lv_has ls 5 [(0, .ref (a 0)), (1, .int x1), (2, .int x2), (3, .int x3)] := hl
  obtain ⟨H, hH⟩ : ∃ z, z = s.heap := ⟨_, rfl⟩
  rw [← hH] at hW ⊢
  unfold f_X12_get at h
  refine lv_aload_n hx hb dX12_get_0 rfl (lv_at hl 0 rfl) ?_
  refine lv_iload_n hx hb dX12_get_1 rfl (lv_at hl 1 rfl) ?_
  obtain ⟨r1, hc3, h⟩ := bq_some h
  refine cV_i (ci := 12) (q0 := 0) (rest := []) hF hW mw_X12_214 (c_X12_isArray l K a hc3) ⟨Nat.le_of_ble_eq_true rfl, Nat.le_of_ble_eq_true rfl⟩ rfl rfl (pM_0 K a _) rfl hl.1 rfl (Nat.le_of_ble_eq_true rfl) dX12_get_2 ⟨Nat.le_of_ble_eq_true rfl, Nat.le_of_ble_eq_true rfl⟩ (fun _ H locs hW => ?_)
  refine lz_ne (tgt := 10) hx hb dX12_get_5 (by decide) (fun q4 => ?_) (fun q4 => ?_)
  · have h := ifp q4 h
    refine lv_aload_n hx hb dX12_get_10 rfl (lv_at hl 0 rfl) ?_
    refine lv_iload_n hx hb dX12_get_11 rfl (lv_at hl 1 rfl) ?_
    refine lv_iload_n hx hb dX12_get_12 rfl (lv_at hl 2 rfl) ?_
    refine lv_i2l hx hb dX12_get_13 rfl ?_
    refine lv_iload_n hx hb dX12_get_14 rfl (lv_at hl 3 rfl) ?_
    refine lv_i2l hx hb dX12_get_15 rfl ?_
    obtain ⟨r5, hc7, h⟩ := bq_some h
    refine cV_i (ci := 12) (q0 := 0) (rest := []) hF hW mw_X12_217 (c_X12_lacks l K a hc7) ⟨Nat.le_of_ble_eq_true rfl, Nat.le_of_ble_eq_true rfl⟩ rfl rfl (pM_0 K a _) rfl hl.1 rfl (Nat.le_of_ble_eq_true rfl) dX12_get_16 ⟨Nat.le_of_ble_eq_true rfl, Nat.le_of_ble_eq_true rfl⟩ (fun _ H locs hW => ?_)
    refine lv_istore (lv' := [(4, .int r5), (0, .ref (a 0)), (1, .int x1), (2, .int x2), (3, .int x3)]) hx hb dX12_get_19 hl (by decide) rfl (fun ls hl => ?_)
    refine lv_iload hx hb dX12_get_21 (lv_at hl 0 rfl) ?_
    refine lv_if_le (tgt := 33) hx hb dX12_get_23 (by decide) (fun q8 => ?_) (fun q8 => ?_)
    · have h := ifp q8 h
      refine lv_aload_n hx hb dX12_get_33 rfl (lv_at hl 1 rfl) ?_
      refine lv_aload_n hx hb dX12_get_34 rfl (lv_at hl 1 rfl) ?_
      refine g_X12_75 hF hW dX12_get_35 ?_
      refine lv_aload_n hx hb dX12_get_38 rfl (lv_at hl 1 rfl) ?_
      refine lv_iload_n hx hb dX12_get_39 rfl (lv_at hl 2 rfl) ?_
      refine lv_iload_n hx hb dX12_get_40 rfl (lv_at hl 3 rfl) ?_
      refine lv_i2l hx hb dX12_get_41 rfl ?_
      refine lv_iload_n hx hb dX12_get_42 rfl (lv_at hl 4 rfl) ?_
      refine lv_i2l hx hb dX12_get_43 rfl ?_
      obtain ⟨r9, hc11, h⟩ := bq_some h
      refine cV_i (ci := 12) (q0 := 0) (rest := [.ref (a 22), .ref (a 0)]) hF hW mw_X12_221 (c_X12_at l K a hc11) ⟨Nat.le_of_ble_eq_true rfl, Nat.le_of_ble_eq_true rfl⟩ rfl rfl (pM_0 K a _) rfl hl.1 rfl (Nat.le_of_ble_eq_true rfl) dX12_get_44 ⟨Nat.le_of_ble_eq_true rfl, Nat.le_of_ble_eq_true rfl⟩ (fun _ H locs hW => ?_)
      obtain ⟨q12, h⟩ := ck_some h
      refine w_lld hF hW (pM_22 K a _) q12 dX12_get_47 ?_
      refine s_X12_228 (x := (M.2.1 22 r9.toNatClampNeg)) hF hW dX12_get_48 (fun H locs hW => ?_)
      refine lv_iconst (v := 1) hx hb dX12_get_51 (by decide) ?_
      obtain ⟨rfl, rfl⟩ := Prod.mk.inj (Option.some.inj h)
      exact rt_i hF hr hk rfl (fun _ => 0) hW rfl dX12_get_52
    · have h := ifn q8 h
      refine lv_aload_n hx hb dX12_get_26 rfl (lv_at hl 1 rfl) ?_
      refine lv_iload hx hb dX12_get_27 (lv_at hl 0 rfl) ?_
      obtain ⟨r13, M14, hc15, h⟩ := bd_some h
      refine cV_i (ci := 12) (q0 := 0) (rest := []) hF hW mw_X12_207 (c_X12_meets l K a hc15) ⟨Nat.le_of_ble_eq_true rfl, Nat.le_of_ble_eq_true rfl⟩ rfl rfl (pM_0 K a _) rfl hl.1 rfl (Nat.le_of_ble_eq_true rfl) dX12_get_29 ⟨Nat.le_of_ble_eq_true rfl, Nat.le_of_ble_eq_true rfl⟩ (fun _ H locs hW => ?_)
      obtain ⟨rfl, rfl⟩ := Prod.mk.inj (Option.some.inj h)
      exact rt_i hF hr hk rfl (fun _ => 0) hW rfl dX12_get_32
  · have h := ifn q4 h
    refine lv_iconst (v := (-1)) hx hb dX12_get_8 (by decide) ?_
    obtain ⟨rfl, rfl⟩ := Prod.mk.inj (Option.some.inj h)
    exact rt_i hF hr hk rfl (fun _ => 0) hW rfl dX12_get_9
set_option maxRecDepth 100000 in
set_option maxHeartbeats 1000000 in
theorem c_X12_asked (l : Launch) (K : Kx) (a : Nat → Nat) {M : Mem}  {r0 : Int64} (h : f_X12_asked M = some r0) : CMl l yX12_asked cX12_asked 1 ({ frames := 0, cells := 0, slots := 0, locals := 0 } : Room) K [.ref (a 0)] (wM K a M) (fun _ => wM K a M) r0 := by
  refine cs_l (by decide +kernel) (Nat.le_of_ble_eq_true rfl) ?_
  intro p e s m args below meth c A ls hF hr hk hnm hW hl
  have hx := hF.1
  have hb := hF.2.1
  have hl : lv_has ls 1 [(0, .ref (a 0))] := hl
  obtain ⟨H, hH⟩ : ∃ z, z = s.heap := ⟨_, rfl⟩
  rw [← hH] at hW ⊢
  unfold f_X12_asked at h
  refine lv_aload_n hx hb dX12_asked_0 rfl (lv_at hl 0 rfl) ?_
  refine g_X12_228 hF hW dX12_asked_1 ?_
  obtain rfl := Option.some.inj h
  exact rt_l hF hr hk (fun _ => 0) hW rfl dX12_asked_4
set_option maxRecDepth 100000 in
set_option maxHeartbeats 1000000 in
theorem c_X12_nextIn (l : Launch) (K : Kx) (a : Nat → Nat) {M : Mem} {x1 : Int32} {x2 : Int32} {r0 : Int32} (h : f_X12_nextIn M x1 x2 = some r0) : CMi l yX12_nextIn cX12_nextIn 4 (some .int) ({ frames := 0, cells := 0, slots := 0, locals := 0 } : Room) K [.ref (a 0), .int x1, .int x2] (wM K a M) (fun _ => wM K a M) r0 := by
  refine cs_i (by decide +kernel) (Nat.le_of_ble_eq_true rfl) ?_
  intro p e s m args below meth c A ls hF hr hk hnm hW hl
  have hx := hF.1
  have hb := hF.2.1
  have hl : lv_has ls 4 [(0, .ref (a 0)), (1, .int x1), (2, .int x2)] := hl
  obtain ⟨H, hH⟩ : ∃ z, z = s.heap := ⟨_, rfl⟩
  rw [← hH] at hW ⊢
  have J2 : ∀ (n2 : Nat) (x1 : Int32) (x3 : Int32) (M : Mem) (H : Heap) (locs : List Loc) (ls : Array Slot), f_X12_nextIn_2 n2 x1 x3 M = some r0 → Wd K A s (wM K a M) H locs → lv_has ls 4 [(0, .ref (a 0)), (1, .int x1), (3, .int x3)] → W p l e ({ frames := 0, cells := 0, slots := 0, locals := 0 } : Room) s m args below meth c H locs 0 0 (EndI K A (fun _ => wM K a M) r0 below args s ({ frames := 0, cells := 0, slots := 0, locals := 0 } : Room)) (F0 m 2 ls []) := by
    intro n2
    induction n2 with
    | zero => intro x1 x3 M H locs ls h; exact absurd h (by simp [f_X12_nextIn_2])
    | succ n2 ih2 =>
      intro x1 x3 M H locs ls h hW hl
      rw [f_X12_nextIn_2] at h
      refine lv_iload_n hx hb dX12_nextIn_2 rfl (lv_at hl 2 rfl) ?_
      refine lv_aload_n hx hb dX12_nextIn_3 rfl (lv_at hl 0 rfl) ?_
      refine g_X12_170 hF hW dX12_nextIn_4 ?_
      refine lv_icmp_ge (tgt := 26) hx hb dX12_nextIn_7 (by decide) (fun q1 => ?_) (fun q1 => ?_)
      · have h := ifp q1 h
        refine lv_iload_n hx hb dX12_nextIn_26 rfl (lv_at hl 2 rfl) ?_
        obtain rfl := Option.some.inj h
        exact rt_i hF hr hk rfl (fun _ => 0) hW rfl dX12_nextIn_27
      · have h := ifn q1 h
        refine lv_aload_n hx hb dX12_nextIn_10 rfl (lv_at hl 0 rfl) ?_
        refine g_X12_29 hF hW dX12_nextIn_11 ?_
        refine lv_iload_n hx hb dX12_nextIn_14 rfl (lv_at hl 2 rfl) ?_
        obtain ⟨q2, h⟩ := ck_some h
        refine w_ild hF hW (pM_7 K a _) q2 dX12_nextIn_15 ?_
        refine lv_iload_n hx hb dX12_nextIn_16 rfl (lv_at hl 1 rfl) ?_
        refine lv_icmp_eq (tgt := 26) hx hb dX12_nextIn_17 (by decide) (fun q3 => ?_) (fun q3 => ?_)
        · have h := ifp q3 h
          refine lv_iload_n hx hb dX12_nextIn_26 rfl (lv_at hl 2 rfl) ?_
          obtain rfl := Option.some.inj h
          exact rt_i hF hr hk rfl (fun _ => 0) hW rfl dX12_nextIn_27
        · have h := ifn q3 h
          refine lv_iinc (v := (x3 + 1)) (lv' := [(3, .int (x3 + 1)), (0, .ref (a 0)), (1, .int x1)]) hx hb dX12_nextIn_20 hl (k := 2) rfl rfl (by decide) rfl (fun ls hl => ?_)
          refine lv_goto (tgt := 2) hx hb dX12_nextIn_23 (by decide) ?_
          exact ih2 x1 (x3 + 1) _ _ _ _ h hW (lv_sub hl [1, 2, 0] rfl)
  unfold f_X12_nextIn at h
  refine lv_iload_n hx hb dX12_nextIn_0 rfl (lv_at hl 2 rfl) ?_
  refine lv_istore_n (lv' := [(3, .int x2), (0, .ref (a 0)), (1, .int x1), (2, .int x2)]) hx hb dX12_nextIn_1 rfl hl (by decide) rfl (fun ls hl => ?_)
  exact J2 100000 x1 x2 _ _ _ _ h hW (lv_sub hl [1, 2, 0] rfl)
set_option maxRecDepth 100000 in
set_option maxHeartbeats 1000000 in
theorem c_X12_turns (l : Launch) (K : Kx) (a : Nat → Nat) {M M0 : Mem} {x1 : Int32} {r0 : Bool} (h : f_X12_turns M x1 = some (r0, M0)) : CMi l yX12_turns cX12_turns 3 (some .boolean) ({ frames := 0, cells := 0, slots := 0, locals := 0 } : Room) K [.ref (a 0), .int x1] (wM K a M) (fun _ => wM K a M0) (bI r0) := by
  refine cs_i (by decide +kernel) (Nat.le_of_ble_eq_true rfl) ?_
  intro p e s m args below meth c A ls hF hr hk hnm hW hl
  have hx := hF.1
  have hb := hF.2.1
  have hl : lv_has ls 3 [(0, .ref (a 0)), (1, .int x1)] := hl
  obtain ⟨H, hH⟩ : ∃ z, z = s.heap := ⟨_, rfl⟩
  rw [← hH] at hW ⊢
  unfold f_X12_turns at h
  refine lv_aload_n hx hb dX12_turns_0 rfl (lv_at hl 0 rfl) ?_
  refine g_X12_84 hF hW dX12_turns_1 ?_
  refine lv_iload_n hx hb dX12_turns_4 rfl (lv_at hl 1 rfl) ?_
  obtain ⟨q1, h⟩ := ck_some h
  refine w_ild hF hW (pM_25 K a _) q1 dX12_turns_5 ?_
  refine lv_istore_n (lv' := [(2, .int (M.1 25 x1.toNatClampNeg)), (0, .ref (a 0)), (1, .int x1)]) hx hb dX12_turns_6 rfl hl (by decide) rfl (fun ls hl => ?_)
  refine lv_aload_n hx hb dX12_turns_7 rfl (lv_at hl 1 rfl) ?_
  refine g_X12_22 hF hW dX12_turns_8 ?_
  refine lv_aload_n hx hb dX12_turns_11 rfl (lv_at hl 1 rfl) ?_
  refine g_X12_32 hF hW dX12_turns_12 ?_
  refine lv_iload_n hx hb dX12_turns_15 rfl (lv_at hl 0 rfl) ?_
  obtain ⟨q2, h⟩ := ck_some h
  refine w_ild hF hW (pM_8 K a _) q2 dX12_turns_16 ?_
  obtain ⟨q3, h⟩ := ck_some h
  refine w_lld hF hW (pM_5 K a _) q3 dX12_turns_17 ?_
  refine lv_aload_n hx hb dX12_turns_18 rfl (lv_at hl 1 rfl) ?_
  refine g_X12_90 hF hW dX12_turns_19 ?_
  refine lv_iload_n hx hb dX12_turns_22 rfl (lv_at hl 2 rfl) ?_
  obtain ⟨q4, h⟩ := ck_some h
  refine w_lld hF hW (pM_27 K a _) q4 dX12_turns_23 ?_
  refine ll_le (tgt := 30) hx hb dX12_turns_24 dX12_turns_25 (by decide) (fun q5 => ?_) (fun q5 => ?_)
  · have h := ifp q5 h
    refine lv_aload_n hx hb dX12_turns_30 rfl (lv_at hl 1 rfl) ?_
    refine lv_dup hx hb dX12_turns_31 rfl ?_
    refine g_X12_232 hF hW dX12_turns_32 ?_
    refine lv_iconst (v := 1) hx hb dX12_turns_35 (by decide) ?_
    refine lv_iadd hx hb dX12_turns_36 ?_
    refine s_X12_232 (x := ((M.1 107 0) + 1)) hF hW dX12_turns_37 (fun H locs hW => ?_)
    refine lv_aload_n hx hb dX12_turns_40 rfl (lv_at hl 1 rfl) ?_
    refine lv_aload_n hx hb dX12_turns_41 rfl (lv_at hl 1 rfl) ?_
    refine g_X12_235 hF hW dX12_turns_42 ?_
    refine lz_ne (tgt := 58) hx hb dX12_turns_45 (by decide) (fun q6 => ?_) (fun q6 => ?_)
    · have h := ifp q6 h
      refine lv_iconst (v := 1) hx hb dX12_turns_58 (by decide) ?_
      refine lv_goto (tgt := 63) hx hb dX12_turns_59 (by decide) ?_
      refine s_X12_235 (x := true) hF hW dX12_turns_63 (fun H locs hW => ?_)
      refine lv_iconst (v := 1) hx hb dX12_turns_66 (by decide) ?_
      obtain ⟨rfl, rfl⟩ := Prod.mk.inj (Option.some.inj h)
      exact rt_i hF hr hk (bI_n true) (fun _ => 0) hW rfl dX12_turns_67
    · have h := ifn q6 h
      refine lv_aload_n hx hb dX12_turns_48 rfl (lv_at hl 1 rfl) ?_
      refine g_X12_232 hF hW dX12_turns_49 ?_
      refine lv_sipush (v := 4000) hx hb dX12_turns_52 (by decide) ?_
      refine lv_icmp_le (tgt := 62) hx hb dX12_turns_55 (by decide) (fun q7 => ?_) (fun q7 => ?_)
      · have h := ifp q7 h
        refine lv_iconst (v := 0) hx hb dX12_turns_62 (by decide) ?_
        refine s_X12_235 (x := false) hF hW dX12_turns_63 (fun H locs hW => ?_)
        refine lv_iconst (v := 1) hx hb dX12_turns_66 (by decide) ?_
        obtain ⟨rfl, rfl⟩ := Prod.mk.inj (Option.some.inj h)
        exact rt_i hF hr hk (bI_n true) (fun _ => 0) hW rfl dX12_turns_67
      · have h := ifn q7 h
        refine lv_iconst (v := 1) hx hb dX12_turns_58 (by decide) ?_
        refine lv_goto (tgt := 63) hx hb dX12_turns_59 (by decide) ?_
        refine s_X12_235 (x := true) hF hW dX12_turns_63 (fun H locs hW => ?_)
        refine lv_iconst (v := 1) hx hb dX12_turns_66 (by decide) ?_
        obtain ⟨rfl, rfl⟩ := Prod.mk.inj (Option.some.inj h)
        exact rt_i hF hr hk (bI_n true) (fun _ => 0) hW rfl dX12_turns_67
  · have h := ifn q5 h
    refine lv_iconst (v := 0) hx hb dX12_turns_28 (by decide) ?_
    obtain ⟨rfl, rfl⟩ := Prod.mk.inj (Option.some.inj h)
    exact rt_i hF hr hk (bI_n false) (fun _ => 0) hW rfl dX12_turns_29
set_option maxRecDepth 100000 in
set_option maxHeartbeats 1000000 in
theorem c_X12_see (l : Launch) (K : Kx) (a : Nat → Nat) {M M0 : Mem} {x1 : Int32}  (h : f_X12_see M x1 = some M0) : CMv l yX12_see cX12_see 3 ({ frames := 0, cells := 0, slots := 0, locals := 0 } : Room) K [.ref (a 0), .int x1] (wM K a M) (fun _ => wM K a M0) := by
  refine cs_v (by decide +kernel) (Nat.le_of_ble_eq_true rfl) ?_
  intro p e s m args below meth c A ls hF hr hk hnm hW hl
  have hx := hF.1
  have hb := hF.2.1
  have hl : lv_has ls 3 [(0, .ref (a 0)), (1, .int x1)] := hl
  obtain ⟨H, hH⟩ : ∃ z, z = s.heap := ⟨_, rfl⟩
  rw [← hH] at hW ⊢
  have J28 : ∀ (n28 : Nat) (x1 : Int32) (x2 : Int32) (M : Mem) (H : Heap) (locs : List Loc) (ls : Array Slot), f_X12_see_28 n28 x1 x2 M = some M0 → Wd K A s (wM K a M) H locs → lv_has ls 3 [(0, .ref (a 0)), (1, .int x1), (2, .int x2)] → W p l e ({ frames := 0, cells := 0, slots := 0, locals := 0 } : Room) s m args below meth c H locs 0 0 (EndV K A (fun _ => wM K a M0) below args s ({ frames := 0, cells := 0, slots := 0, locals := 0 } : Room)) (F0 m 28 ls []) := by
    intro n28
    induction n28 with
    | zero => intro x1 x2 M H locs ls h; exact absurd h (by simp [f_X12_see_28])
    | succ n28 ih28 =>
      intro x1 x2 M H locs ls h hW hl
      rw [f_X12_see_28] at h
      refine lv_iload_n hx hb dX12_see_28 rfl (lv_at hl 2 rfl) ?_
      refine lv_iconst (v := 4) hx hb dX12_see_29 (by decide) ?_
      refine lv_icmp_ge (tgt := 72) hx hb dX12_see_30 (by decide) (fun q3 => ?_) (fun q3 => ?_)
      · have h := ifp q3 h
        refine lv_aload_n hx hb dX12_see_72 rfl (lv_at hl 0 rfl) ?_
        refine lv_dup hx hb dX12_see_73 rfl ?_
        refine g_X12_239 hF hW dX12_see_74 ?_
        refine lv_iconst (v := 1) hx hb dX12_see_77 (by decide) ?_
        refine lv_iadd hx hb dX12_see_78 ?_
        refine s_X12_239 (x := ((M.1 106 0) + 1)) hF hW dX12_see_79 (fun H locs hW => ?_)
        obtain rfl := Option.some.inj h
        exact rt_v hF hr hk (fun _ => 0) hW dX12_see_82
      · have h := ifn q3 h
        refine lv_aload_n hx hb dX12_see_33 rfl (lv_at hl 0 rfl) ?_
        refine g_X12_81 hF hW dX12_see_34 ?_
        refine lv_iconst (v := 4) hx hb dX12_see_37 (by decide) ?_
        refine lv_aload_n hx hb dX12_see_38 rfl (lv_at hl 0 rfl) ?_
        refine g_X12_239 hF hW dX12_see_39 ?_
        refine lv_imul hx hb dX12_see_42 ?_
        refine lv_iload_n hx hb dX12_see_43 rfl (lv_at hl 2 rfl) ?_
        refine lv_iadd hx hb dX12_see_44 ?_
        refine lv_iload_n hx hb dX12_see_45 rfl (lv_at hl 2 rfl) ?_
        refine lv_aload_n hx hb dX12_see_46 rfl (lv_at hl 0 rfl) ?_
        refine g_X12_32 hF hW dX12_see_47 ?_
        refine lv_iload_n hx hb dX12_see_50 rfl (lv_at hl 1 rfl) ?_
        obtain ⟨q4, h⟩ := ck_some h
        refine w_ild hF hW (pM_8 K a _) q4 dX12_see_51 ?_
        refine lv_icmp_ge (tgt := 64) hx hb dX12_see_52 (by decide) (fun q5 => ?_) (fun q5 => ?_)
        · have h := ifp q5 h
          refine lv_lconst (v := 0) hx hb dX12_see_64 (by decide) ?_
          obtain ⟨q6, h⟩ := ck_some h
          refine w_lst hF hW (pM_24 K a _) q6 (uM_24 K a _ _ _) dX12_see_65 (fun H locs hW => ?_)
          refine lv_iinc (v := (x2 + 1)) (lv' := [(2, .int (x2 + 1)), (0, .ref (a 0)), (1, .int x1)]) hx hb dX12_see_66 hl (k := 2) rfl rfl (by decide) rfl (fun ls hl => ?_)
          refine lv_goto (tgt := 28) hx hb dX12_see_69 (by decide) ?_
          exact ih28 x1 (x2 + 1) _ _ _ _ h hW (lv_sub hl [1, 2, 0] rfl)
        · have h := ifn q5 h
          refine lv_aload_n hx hb dX12_see_55 rfl (lv_at hl 0 rfl) ?_
          refine g_X12_22 hF hW dX12_see_56 ?_
          refine lv_iload_n hx hb dX12_see_59 rfl (lv_at hl 2 rfl) ?_
          obtain ⟨q7, h⟩ := ck_some h
          refine w_lld hF hW (pM_5 K a _) q7 dX12_see_60 ?_
          refine lv_goto (tgt := 65) hx hb dX12_see_61 (by decide) ?_
          obtain ⟨q8, h⟩ := ck_some h
          refine w_lst hF hW (pM_24 K a _) q8 (uM_24 K a _ _ _) dX12_see_65 (fun H locs hW => ?_)
          refine lv_iinc (v := (x2 + 1)) (lv' := [(2, .int (x2 + 1)), (0, .ref (a 0)), (1, .int x1)]) hx hb dX12_see_66 hl (k := 2) rfl rfl (by decide) rfl (fun ls hl => ?_)
          refine lv_goto (tgt := 28) hx hb dX12_see_69 (by decide) ?_
          exact ih28 x1 (x2 + 1) _ _ _ _ h hW (lv_sub hl [1, 2, 0] rfl)
  unfold f_X12_see at h
  refine lv_aload_n hx hb dX12_see_0 rfl (lv_at hl 0 rfl) ?_
  refine g_X12_239 hF hW dX12_see_1 ?_
  refine lv_sipush (v := 400) hx hb dX12_see_4 (by decide) ?_
  refine lv_icmp_ne (tgt := 16) hx hb dX12_see_7 (by decide) (fun q1 => ?_) (fun q1 => ?_)
  · have h := ifn q1 h
    refine lv_aload_n hx hb dX12_see_16 rfl (lv_at hl 0 rfl) ?_
    refine g_X12_78 hF hW dX12_see_17 ?_
    refine lv_aload_n hx hb dX12_see_20 rfl (lv_at hl 0 rfl) ?_
    refine g_X12_239 hF hW dX12_see_21 ?_
    refine lv_iload_n hx hb dX12_see_24 rfl (lv_at hl 1 rfl) ?_
    obtain ⟨q2, h⟩ := ck_some h
    refine w_ist hF hW (pM_23 K a _) q2 (uM_23 K a _ _ _) dX12_see_25 (fun H locs hW => ?_)
    refine lv_iconst (v := 0) hx hb dX12_see_26 (by decide) ?_
    refine lv_istore_n (lv' := [(2, .int 0), (0, .ref (a 0)), (1, .int x1)]) hx hb dX12_see_27 rfl hl (by decide) rfl (fun ls hl => ?_)
    exact J28 100000 x1 0 _ _ _ _ h hW (lv_sub hl [1, 2, 0] rfl)
  · have h := ifp q1 h
    refine lv_aload_n hx hb dX12_see_10 rfl (lv_at hl 0 rfl) ?_
    refine lv_iconst (v := 1) hx hb dX12_see_11 (by decide) ?_
    refine s_X12_235 (x := true) hF hW dX12_see_12 (fun H locs hW => ?_)
    obtain rfl := Option.some.inj h
    exact rt_v hF hr hk (fun _ => 0) hW dX12_see_15
set_option maxRecDepth 100000 in
set_option maxHeartbeats 1000000 in
theorem c_X12_closeLoop (l : Launch) (K : Kx) (a : Nat → Nat) {M M0 : Mem} {x1 : Int32}  (h : f_X12_closeLoop M x1 = some M0) : CMv l yX12_closeLoop cX12_closeLoop 2 ({ frames := 0, cells := 0, slots := 0, locals := 0 } : Room) K [.ref (a 0), .int x1] (wM K a M) (fun _ => wM K a M0) := by
  refine cs_v (by decide +kernel) (Nat.le_of_ble_eq_true rfl) ?_
  intro p e s m args below meth c A ls hF hr hk hnm hW hl
  have hx := hF.1
  have hb := hF.2.1
  have hl : lv_has ls 2 [(0, .ref (a 0)), (1, .int x1)] := hl
  obtain ⟨H, hH⟩ : ∃ z, z = s.heap := ⟨_, rfl⟩
  rw [← hH] at hW ⊢
  unfold f_X12_closeLoop at h
  refine lv_aload_n hx hb dX12_closeLoop_0 rfl (lv_at hl 0 rfl) ?_
  refine g_X12_22 hF hW dX12_closeLoop_1 ?_
  refine lv_aload_n hx hb dX12_closeLoop_4 rfl (lv_at hl 0 rfl) ?_
  refine g_X12_32 hF hW dX12_closeLoop_5 ?_
  refine lv_aload_n hx hb dX12_closeLoop_8 rfl (lv_at hl 0 rfl) ?_
  refine g_X12_84 hF hW dX12_closeLoop_9 ?_
  refine lv_iload_n hx hb dX12_closeLoop_12 rfl (lv_at hl 1 rfl) ?_
  obtain ⟨q1, h⟩ := ck_some h
  refine w_ild hF hW (pM_25 K a _) q1 dX12_closeLoop_13 ?_
  obtain ⟨q2, h⟩ := ck_some h
  refine w_ild hF hW (pM_8 K a _) q2 dX12_closeLoop_14 ?_
  refine lv_lconst (v := 0) hx hb dX12_closeLoop_15 (by decide) ?_
  obtain ⟨q3, h⟩ := ck_some h
  refine w_lst hF hW (pM_5 K a _) q3 (uM_5 K a _ _ _) dX12_closeLoop_16 (fun H locs hW => ?_)
  obtain rfl := Option.some.inj h
  exact rt_v hF hr hk (fun _ => 0) hW dX12_closeLoop_17
set_option maxRecDepth 100000 in
set_option maxHeartbeats 1000000 in
theorem c_X12_lettersOf (l : Launch) (K : Kx) (a : Nat → Nat) {M M0 : Mem} {x1 : Int32}  (h : f_X12_lettersOf M x1 = some M0) : CMv l yX12_lettersOf cX12_lettersOf 3 ({ frames := 0, cells := 0, slots := 0, locals := 0 } : Room) K [.ref (a 0), .int x1] (wM K a M) (fun _ => wM K a M0) := by
  refine cs_v (by decide +kernel) (Nat.le_of_ble_eq_true rfl) ?_
  intro p e s m args below meth c A ls hF hr hk hnm hW hl
  have hx := hF.1
  have hb := hF.2.1
  have hl : lv_has ls 3 [(0, .ref (a 0)), (1, .int x1)] := hl
  obtain ⟨H, hH⟩ : ∃ z, z = s.heap := ⟨_, rfl⟩
  rw [← hH] at hW ⊢
  have J2 : ∀ (n2 : Nat) (x1 : Int32) (x2 : Int32) (M : Mem) (H : Heap) (locs : List Loc) (ls : Array Slot), f_X12_lettersOf_2 n2 x1 x2 M = some M0 → Wd K A s (wM K a M) H locs → lv_has ls 3 [(0, .ref (a 0)), (1, .int x1), (2, .int x2)] → W p l e ({ frames := 0, cells := 0, slots := 0, locals := 0 } : Room) s m args below meth c H locs 0 0 (EndV K A (fun _ => wM K a M0) below args s ({ frames := 0, cells := 0, slots := 0, locals := 0 } : Room)) (F0 m 2 ls []) := by
    intro n2
    induction n2 with
    | zero => intro x1 x2 M H locs ls h; exact absurd h (by simp [f_X12_lettersOf_2])
    | succ n2 ih2 =>
      intro x1 x2 M H locs ls h hW hl
      rw [f_X12_lettersOf_2] at h
      refine lv_iload_n hx hb dX12_lettersOf_2 rfl (lv_at hl 2 rfl) ?_
      refine lv_iconst (v := 4) hx hb dX12_lettersOf_3 (by decide) ?_
      refine lv_icmp_ge (tgt := 29) hx hb dX12_lettersOf_4 (by decide) (fun q1 => ?_) (fun q1 => ?_)
      · have h := ifp q1 h
        obtain rfl := Option.some.inj h
        exact rt_v hF hr hk (fun _ => 0) hW dX12_lettersOf_29
      · have h := ifn q1 h
        refine lv_aload_n hx hb dX12_lettersOf_7 rfl (lv_at hl 0 rfl) ?_
        refine g_X12_22 hF hW dX12_lettersOf_8 ?_
        refine lv_iload_n hx hb dX12_lettersOf_11 rfl (lv_at hl 2 rfl) ?_
        refine lv_aload_n hx hb dX12_lettersOf_12 rfl (lv_at hl 0 rfl) ?_
        refine g_X12_81 hF hW dX12_lettersOf_13 ?_
        refine lv_iconst (v := 4) hx hb dX12_lettersOf_16 (by decide) ?_
        refine lv_iload_n hx hb dX12_lettersOf_17 rfl (lv_at hl 1 rfl) ?_
        refine lv_imul hx hb dX12_lettersOf_18 ?_
        refine lv_iload_n hx hb dX12_lettersOf_19 rfl (lv_at hl 2 rfl) ?_
        refine lv_iadd hx hb dX12_lettersOf_20 ?_
        obtain ⟨q2, h⟩ := ck_some h
        refine w_lld hF hW (pM_24 K a _) q2 dX12_lettersOf_21 ?_
        obtain ⟨q3, h⟩ := ck_some h
        refine w_lst hF hW (pM_5 K a _) q3 (uM_5 K a _ _ _) dX12_lettersOf_22 (fun H locs hW => ?_)
        refine lv_iinc (v := (x2 + 1)) (lv' := [(2, .int (x2 + 1)), (0, .ref (a 0)), (1, .int x1)]) hx hb dX12_lettersOf_23 hl (k := 2) rfl rfl (by decide) rfl (fun ls hl => ?_)
        refine lv_goto (tgt := 2) hx hb dX12_lettersOf_26 (by decide) ?_
        exact ih2 x1 (x2 + 1) _ _ _ _ h hW (lv_sub hl [1, 2, 0] rfl)
  unfold f_X12_lettersOf at h
  refine lv_iconst (v := 0) hx hb dX12_lettersOf_0 (by decide) ?_
  refine lv_istore_n (lv' := [(2, .int 0), (0, .ref (a 0)), (1, .int x1)]) hx hb dX12_lettersOf_1 rfl hl (by decide) rfl (fun ls hl => ?_)
  exact J2 100000 x1 0 _ _ _ _ h hW (lv_sub hl [1, 2, 0] rfl)
set_option maxRecDepth 100000 in
set_option maxHeartbeats 1000000 in
theorem c_X12_hasAim (l : Launch) (K : Kx) (a : Nat → Nat) {M : Mem} {x1 : Int32} {x2 : Int32} {r0 : Bool} (h : f_X12_hasAim M x1 x2 = some r0) : CMi l yX12_hasAim cX12_hasAim 3 (some .boolean) ({ frames := 0, cells := 0, slots := 0, locals := 0 } : Room) K [.ref (a 0), .int x1, .int x2] (wM K a M) (fun _ => wM K a M) (bI r0) := by
  refine cs_i (by decide +kernel) (Nat.le_of_ble_eq_true rfl) ?_
  intro p e s m args below meth c A ls hF hr hk hnm hW hl
  have hx := hF.1
  have hb := hF.2.1
  have hl : lv_has ls 3 [(0, .ref (a 0)), (1, .int x1), (2, .int x2)] := hl
  obtain ⟨H, hH⟩ : ∃ z, z = s.heap := ⟨_, rfl⟩
  rw [← hH] at hW ⊢
  unfold f_X12_hasAim at h
  refine lv_aload_n hx hb dX12_hasAim_0 rfl (lv_at hl 0 rfl) ?_
  refine g_X12_41 hF hW dX12_hasAim_1 ?_
  refine lv_iconst (v := 3) hx hb dX12_hasAim_4 (by decide) ?_
  refine lv_aload_n hx hb dX12_hasAim_5 rfl (lv_at hl 0 rfl) ?_
  refine g_X12_78 hF hW dX12_hasAim_6 ?_
  refine lv_iload_n hx hb dX12_hasAim_9 rfl (lv_at hl 1 rfl) ?_
  obtain ⟨q1, h⟩ := ck_some h
  refine w_ild hF hW (pM_23 K a _) q1 dX12_hasAim_10 ?_
  refine lv_imul hx hb dX12_hasAim_11 ?_
  refine lv_iload_n hx hb dX12_hasAim_12 rfl (lv_at hl 2 rfl) ?_
  refine lv_iadd hx hb dX12_hasAim_13 ?_
  obtain ⟨q2, h⟩ := ck_some h
  refine w_ild hF hW (pM_11 K a _) q2 dX12_hasAim_14 ?_
  refine lv_bipush (v := (-9)) hx hb dX12_hasAim_15 (by decide) ?_
  refine lv_icmp_eq (tgt := 24) hx hb dX12_hasAim_17 (by decide) (fun q3 => ?_) (fun q3 => ?_)
  · have h := ifp q3 h
    refine lv_iconst (v := 0) hx hb dX12_hasAim_24 (by decide) ?_
    obtain rfl := Option.some.inj h
    exact rt_i hF hr hk (bI_n false) (fun _ => 0) hW rfl dX12_hasAim_25
  · have h := ifn q3 h
    refine lv_iconst (v := 1) hx hb dX12_hasAim_20 (by decide) ?_
    refine lv_goto (tgt := 25) hx hb dX12_hasAim_21 (by decide) ?_
    obtain rfl := Option.some.inj h
    exact rt_i hF hr hk (bI_n true) (fun _ => 0) hW rfl dX12_hasAim_25
set_option maxRecDepth 100000 in
set_option maxHeartbeats 1000000 in
theorem c_X12_touchAll (l : Launch) (K : Kx) (a : Nat → Nat) {M M0 : Mem}   (h : f_X12_touchAll M = some M0) : CMv l yX12_touchAll cX12_touchAll 3 ({ frames := 1, cells := 0, slots := 0, locals := 24 } : Room) K [.ref (a 0)] (wM K a M) (fun _ => wM K a M0) := by
  refine cs_v (by decide +kernel) (Nat.le_of_ble_eq_true rfl) ?_
  intro p e s m args below meth c A ls hF hr hk hnm hW hl
  have hx := hF.1
  have hb := hF.2.1
  have hl : lv_has ls 3 [(0, .ref (a 0))] := hl
  obtain ⟨H, hH⟩ : ∃ z, z = s.heap := ⟨_, rfl⟩
  rw [← hH] at hW ⊢
  have J2 : ∀ (n2 : Nat) (x1 : Int32) (M : Mem) (H : Heap) (locs : List Loc) (ls : Array Slot), f_X12_touchAll_2 n2 x1 M = some M0 → Wd K A s (wM K a M) H locs → lv_has ls 3 [(0, .ref (a 0)), (1, .int x1)] → W p l e ({ frames := 1, cells := 0, slots := 0, locals := 24 } : Room) s m args below meth c H locs 0 0 (EndV K A (fun _ => wM K a M0) below args s ({ frames := 1, cells := 0, slots := 0, locals := 24 } : Room)) (F0 m 2 ls []) := by
    intro n2
    induction n2 with
    | zero => intro x1 M H locs ls h; exact absurd h (by simp [f_X12_touchAll_2])
    | succ n2 ih2 =>
      have J17 : ∀ (n17 : Nat) (x1 : Int32) (x2 : Int32) (M : Mem) (H : Heap) (locs : List Loc) (ls : Array Slot), f_X12_touchAll_17 (f_X12_touchAll_2 n2) n17 x1 x2 M = some M0 → Wd K A s (wM K a M) H locs → lv_has ls 3 [(0, .ref (a 0)), (1, .int x1), (2, .int x2)] → W p l e ({ frames := 1, cells := 0, slots := 0, locals := 24 } : Room) s m args below meth c H locs 0 0 (EndV K A (fun _ => wM K a M0) below args s ({ frames := 1, cells := 0, slots := 0, locals := 24 } : Room)) (F0 m 17 ls []) := by
        intro n17
        induction n17 with
        | zero => intro x1 x2 M H locs ls h; exact absurd h (by simp [f_X12_touchAll_17])
        | succ n17 ih17 =>
          intro x1 x2 M H locs ls h hW hl
          rw [f_X12_touchAll_17] at h
          refine lv_iload_n hx hb dX12_touchAll_17 rfl (lv_at hl 2 rfl) ?_
          refine lv_iconst (v := 3) hx hb dX12_touchAll_18 (by decide) ?_
          refine lv_icmp_ge (tgt := 95) hx hb dX12_touchAll_19 (by decide) (fun q5 => ?_) (fun q5 => ?_)
          · have h := ifp q5 h
            refine lv_iinc (v := (x1 + 1)) (lv' := [(1, .int (x1 + 1)), (0, .ref (a 0)), (2, .int x2)]) hx hb dX12_touchAll_95 hl (k := 1) rfl rfl (by decide) rfl (fun ls hl => ?_)
            refine lv_goto (tgt := 2) hx hb dX12_touchAll_98 (by decide) ?_
            exact ih2 (x1 + 1) _ _ _ _ h hW (lv_sub hl [1, 0] rfl)
          · have h := ifn q5 h
            refine lv_aload_n hx hb dX12_touchAll_22 rfl (lv_at hl 0 rfl) ?_
            refine lv_iload_n hx hb dX12_touchAll_23 rfl (lv_at hl 1 rfl) ?_
            refine lv_iload_n hx hb dX12_touchAll_24 rfl (lv_at hl 2 rfl) ?_
            obtain ⟨r6, hc8, h⟩ := bq_some h
            refine cV_i (ci := 12) (q0 := 0) (rest := []) hF hW mw_X12_263 (c_X12_hasAim l K a hc8) ⟨Nat.le_of_ble_eq_true rfl, Nat.le_of_ble_eq_true rfl⟩ rfl rfl (pM_0 K a _) rfl hl.1 rfl (Nat.le_of_ble_eq_true rfl) dX12_touchAll_25 ⟨Nat.le_of_ble_eq_true rfl, Nat.le_of_ble_eq_true rfl⟩ (fun _ H locs hW => ?_)
            refine lz_eq (tgt := 89) hx hb dX12_touchAll_28 (by decide) (fun q9 => ?_) (fun q9 => ?_)
            · have h := ifn q9 h
              refine lv_iinc (v := (x2 + 1)) (lv' := [(2, .int (x2 + 1)), (0, .ref (a 0)), (1, .int x1)]) hx hb dX12_touchAll_89 hl (k := 2) rfl rfl (by decide) rfl (fun ls hl => ?_)
              refine lv_goto (tgt := 17) hx hb dX12_touchAll_92 (by decide) ?_
              exact ih17 x1 (x2 + 1) _ _ _ _ h hW (lv_sub hl [1, 2, 0] rfl)
            · have h := ifp q9 h
              refine lv_aload_n hx hb dX12_touchAll_31 rfl (lv_at hl 0 rfl) ?_
              refine g_X12_93 hF hW dX12_touchAll_32 ?_
              refine lv_iconst (v := 3) hx hb dX12_touchAll_35 (by decide) ?_
              refine lv_iload_n hx hb dX12_touchAll_36 rfl (lv_at hl 1 rfl) ?_
              refine lv_imul hx hb dX12_touchAll_37 ?_
              refine lv_iload_n hx hb dX12_touchAll_38 rfl (lv_at hl 2 rfl) ?_
              refine lv_iadd hx hb dX12_touchAll_39 ?_
              refine lv_aload_n hx hb dX12_touchAll_40 rfl (lv_at hl 0 rfl) ?_
              refine lv_aload_n hx hb dX12_touchAll_41 rfl (lv_at hl 0 rfl) ?_
              refine g_X12_44 hF hW dX12_touchAll_42 ?_
              refine lv_iconst (v := 3) hx hb dX12_touchAll_45 (by decide) ?_
              refine lv_aload_n hx hb dX12_touchAll_46 rfl (lv_at hl 0 rfl) ?_
              refine g_X12_78 hF hW dX12_touchAll_47 ?_
              refine lv_iload_n hx hb dX12_touchAll_50 rfl (lv_at hl 1 rfl) ?_
              obtain ⟨q10, h⟩ := ck_some h
              refine w_ild hF hW (pM_23 K a _) q10 dX12_touchAll_51 ?_
              refine lv_imul hx hb dX12_touchAll_52 ?_
              refine lv_iload_n hx hb dX12_touchAll_53 rfl (lv_at hl 2 rfl) ?_
              refine lv_iadd hx hb dX12_touchAll_54 ?_
              obtain ⟨q11, h⟩ := ck_some h
              refine w_ild hF hW (pM_12 K a _) q11 dX12_touchAll_55 ?_
              obtain ⟨r12, hc14, h⟩ := bq_some h
              refine cV_l (ci := 12) (q0 := 0) (rest := [.int ((3 * x1) + x2), .ref (a 28)]) hF hW mw_X12_250 (c_X12_valueOf l K a hc14) ⟨Nat.le_of_ble_eq_true rfl, Nat.le_of_ble_eq_true rfl⟩ rfl rfl (pM_0 K a _) rfl hl.1 rfl (Nat.le_of_ble_eq_true rfl) dX12_touchAll_56 ⟨Nat.le_of_ble_eq_true rfl, Nat.le_of_ble_eq_true rfl⟩ (fun _ H locs hW => ?_)
              obtain ⟨q15, h⟩ := ck_some h
              refine w_lst hF hW (pM_28 K a _) q15 (uM_28 K a _ _ _) dX12_touchAll_59 (fun H locs hW => ?_)
              refine lv_aload_n hx hb dX12_touchAll_60 rfl (lv_at hl 0 rfl) ?_
              refine g_X12_96 hF hW dX12_touchAll_61 ?_
              refine lv_iconst (v := 3) hx hb dX12_touchAll_64 (by decide) ?_
              refine lv_iload_n hx hb dX12_touchAll_65 rfl (lv_at hl 1 rfl) ?_
              refine lv_imul hx hb dX12_touchAll_66 ?_
              refine lv_iload_n hx hb dX12_touchAll_67 rfl (lv_at hl 2 rfl) ?_
              refine lv_iadd hx hb dX12_touchAll_68 ?_
              refine lv_aload_n hx hb dX12_touchAll_69 rfl (lv_at hl 0 rfl) ?_
              refine lv_aload_n hx hb dX12_touchAll_70 rfl (lv_at hl 0 rfl) ?_
              refine g_X12_47 hF hW dX12_touchAll_71 ?_
              refine lv_iconst (v := 3) hx hb dX12_touchAll_74 (by decide) ?_
              refine lv_aload_n hx hb dX12_touchAll_75 rfl (lv_at hl 0 rfl) ?_
              refine g_X12_78 hF hW dX12_touchAll_76 ?_
              refine lv_iload_n hx hb dX12_touchAll_79 rfl (lv_at hl 1 rfl) ?_
              obtain ⟨q16, h⟩ := ck_some h
              refine w_ild hF hW (pM_23 K a _) q16 dX12_touchAll_80 ?_
              refine lv_imul hx hb dX12_touchAll_81 ?_
              refine lv_iload_n hx hb dX12_touchAll_82 rfl (lv_at hl 2 rfl) ?_
              refine lv_iadd hx hb dX12_touchAll_83 ?_
              obtain ⟨q17, h⟩ := ck_some h
              refine w_ild hF hW (pM_13 K a _) q17 dX12_touchAll_84 ?_
              obtain ⟨r18, hc20, h⟩ := bq_some h
              refine cV_l (ci := 12) (q0 := 0) (rest := [.int ((3 * x1) + x2), .ref (a 29)]) hF hW mw_X12_250 (c_X12_valueOf l K a hc20) ⟨Nat.le_of_ble_eq_true rfl, Nat.le_of_ble_eq_true rfl⟩ rfl rfl (pM_0 K a _) rfl hl.1 rfl (Nat.le_of_ble_eq_true rfl) dX12_touchAll_85 ⟨Nat.le_of_ble_eq_true rfl, Nat.le_of_ble_eq_true rfl⟩ (fun _ H locs hW => ?_)
              obtain ⟨q21, h⟩ := ck_some h
              refine w_lst hF hW (pM_29 K a _) q21 (uM_29 K a _ _ _) dX12_touchAll_88 (fun H locs hW => ?_)
              refine lv_iinc (v := (x2 + 1)) (lv' := [(2, .int (x2 + 1)), (0, .ref (a 0)), (1, .int x1)]) hx hb dX12_touchAll_89 hl (k := 2) rfl rfl (by decide) rfl (fun ls hl => ?_)
              refine lv_goto (tgt := 17) hx hb dX12_touchAll_92 (by decide) ?_
              exact ih17 x1 (x2 + 1) _ _ _ _ h hW (lv_sub hl [1, 2, 0] rfl)
      intro x1 M H locs ls h hW hl
      rw [f_X12_touchAll_2] at h
      refine lv_iload_n hx hb dX12_touchAll_2 rfl (lv_at hl 1 rfl) ?_
      refine lv_aload_n hx hb dX12_touchAll_3 rfl (lv_at hl 0 rfl) ?_
      refine g_X12_239 hF hW dX12_touchAll_4 ?_
      refine lv_icmp_ge (tgt := 101) hx hb dX12_touchAll_7 (by decide) (fun q1 => ?_) (fun q1 => ?_)
      · have h := ifp q1 h
        obtain rfl := Option.some.inj h
        exact rt_v hF hr hk (fun _ => 0) hW dX12_touchAll_101
      · have h := ifn q1 h
        refine lv_aload_n hx hb dX12_touchAll_10 rfl (lv_at hl 0 rfl) ?_
        refine lv_iload_n hx hb dX12_touchAll_11 rfl (lv_at hl 1 rfl) ?_
        obtain ⟨M3, hc4, h⟩ := bm_some h
        refine cV_v (ci := 12) (q0 := 0) (rest := []) hF hW mw_X12_260 (c_X12_lettersOf l K a hc4) ⟨Nat.le_of_ble_eq_true rfl, Nat.le_of_ble_eq_true rfl⟩ rfl rfl (pM_0 K a _) rfl hl.1 rfl (Nat.le_of_ble_eq_true rfl) dX12_touchAll_12 ⟨Nat.le_of_ble_eq_true rfl, Nat.le_of_ble_eq_true rfl⟩ (fun _ H locs hW => ?_)
        refine lv_iconst (v := 0) hx hb dX12_touchAll_15 (by decide) ?_
        refine lv_istore_n (lv' := [(2, .int 0), (0, .ref (a 0)), (1, .int x1)]) hx hb dX12_touchAll_16 rfl hl (by decide) rfl (fun ls hl => ?_)
        exact J17 100000 x1 0 _ _ _ _ h hW (lv_sub hl [1, 2, 0] rfl)
  unfold f_X12_touchAll at h
  refine lv_iconst (v := 0) hx hb dX12_touchAll_0 (by decide) ?_
  refine lv_istore_n (lv' := [(1, .int 0), (0, .ref (a 0))]) hx hb dX12_touchAll_1 rfl hl (by decide) rfl (fun ls hl => ?_)
  exact J2 100000 0 _ _ _ _ h hW (lv_sub hl [1, 0] rfl)
set_option maxRecDepth 100000 in
set_option maxHeartbeats 1000000 in
theorem c_X12_isOne (l : Launch) (K : Kx) (a : Nat → Nat) {M : Mem} {x1 : Int32} {x2 : Int32} {x3 : Int32} {x4 : Int32} {r0 : Bool} (h : f_X12_isOne M x1 x2 x3 x4 = some r0) : CMi l yX12_isOne cX12_isOne 5 (some .boolean) ({ frames := 1, cells := 0, slots := 0, locals := 22 } : Room) K [.ref (a 0), .int x1, .int x2, .int x3, .int x4] (wM K a M) (fun _ => wM K a M) (bI r0) := by
  refine cs_i (by decide +kernel) (Nat.le_of_ble_eq_true rfl) ?_
  intro p e s m args below meth c A ls hF hr hk hnm hW hl
  have hx := hF.1
  have hb := hF.2.1
  have hl : lv_has ls 5 [(0, .ref (a 0)), (1, .int x1), (2, .int x2), (3, .int x3), (4, .int x4)] := hl
  obtain ⟨H, hH⟩ : ∃ z, z = s.heap := ⟨_, rfl⟩
  rw [← hH] at hW ⊢
  unfold f_X12_isOne at h
  refine lv_aload_n hx hb dX12_isOne_0 rfl (lv_at hl 0 rfl) ?_
  refine lv_iload_n hx hb dX12_isOne_1 rfl (lv_at hl 1 rfl) ?_
  refine lv_iload_n hx hb dX12_isOne_2 rfl (lv_at hl 2 rfl) ?_
  obtain ⟨r1, hc3, h⟩ := bq_some h
  refine cV_i (ci := 12) (q0 := 0) (rest := []) hF hW mw_X12_263 (c_X12_hasAim l K a hc3) ⟨Nat.le_of_ble_eq_true rfl, Nat.le_of_ble_eq_true rfl⟩ rfl rfl (pM_0 K a _) rfl hl.1 rfl (Nat.le_of_ble_eq_true rfl) dX12_isOne_3 ⟨Nat.le_of_ble_eq_true rfl, Nat.le_of_ble_eq_true rfl⟩ (fun _ H locs hW => ?_)
  refine lz_eq (tgt := 107) hx hb dX12_isOne_6 (by decide) (fun q4 => ?_) (fun q4 => ?_)
  · have h := ifn q4 h
    refine lv_iconst (v := 0) hx hb dX12_isOne_107 (by decide) ?_
    obtain rfl := Option.some.inj h
    exact rt_i hF hr hk (bI_n false) (fun _ => 0) hW rfl dX12_isOne_108
  · have h := ifp q4 h
    refine lv_aload_n hx hb dX12_isOne_9 rfl (lv_at hl 0 rfl) ?_
    refine lv_iload_n hx hb dX12_isOne_10 rfl (lv_at hl 3 rfl) ?_
    refine lv_iload hx hb dX12_isOne_11 (lv_at hl 4 rfl) ?_
    obtain ⟨r5, hc7, h⟩ := bq_some h
    refine cV_i (ci := 12) (q0 := 0) (rest := []) hF hW mw_X12_263 (c_X12_hasAim l K a hc7) ⟨Nat.le_of_ble_eq_true rfl, Nat.le_of_ble_eq_true rfl⟩ rfl rfl (pM_0 K a _) rfl hl.1 rfl (Nat.le_of_ble_eq_true rfl) dX12_isOne_13 ⟨Nat.le_of_ble_eq_true rfl, Nat.le_of_ble_eq_true rfl⟩ (fun _ H locs hW => ?_)
    refine lz_eq (tgt := 107) hx hb dX12_isOne_16 (by decide) (fun q8 => ?_) (fun q8 => ?_)
    · have h := ifn q8 h
      refine lv_iconst (v := 0) hx hb dX12_isOne_107 (by decide) ?_
      obtain rfl := Option.some.inj h
      exact rt_i hF hr hk (bI_n false) (fun _ => 0) hW rfl dX12_isOne_108
    · have h := ifp q8 h
      refine lv_aload_n hx hb dX12_isOne_19 rfl (lv_at hl 0 rfl) ?_
      refine g_X12_41 hF hW dX12_isOne_20 ?_
      refine lv_iconst (v := 3) hx hb dX12_isOne_23 (by decide) ?_
      refine lv_aload_n hx hb dX12_isOne_24 rfl (lv_at hl 0 rfl) ?_
      refine g_X12_78 hF hW dX12_isOne_25 ?_
      refine lv_iload_n hx hb dX12_isOne_28 rfl (lv_at hl 1 rfl) ?_
      obtain ⟨q9, h⟩ := ck_some h
      refine w_ild hF hW (pM_23 K a _) q9 dX12_isOne_29 ?_
      refine lv_imul hx hb dX12_isOne_30 ?_
      refine lv_iload_n hx hb dX12_isOne_31 rfl (lv_at hl 2 rfl) ?_
      refine lv_iadd hx hb dX12_isOne_32 ?_
      obtain ⟨q10, h⟩ := ck_some h
      refine w_ild hF hW (pM_11 K a _) q10 dX12_isOne_33 ?_
      refine lv_aload_n hx hb dX12_isOne_34 rfl (lv_at hl 0 rfl) ?_
      refine g_X12_41 hF hW dX12_isOne_35 ?_
      refine lv_iconst (v := 3) hx hb dX12_isOne_38 (by decide) ?_
      refine lv_aload_n hx hb dX12_isOne_39 rfl (lv_at hl 0 rfl) ?_
      refine g_X12_78 hF hW dX12_isOne_40 ?_
      refine lv_iload_n hx hb dX12_isOne_43 rfl (lv_at hl 3 rfl) ?_
      obtain ⟨q11, h⟩ := ck_some h
      refine w_ild hF hW (pM_23 K a _) q11 dX12_isOne_44 ?_
      refine lv_imul hx hb dX12_isOne_45 ?_
      refine lv_iload hx hb dX12_isOne_46 (lv_at hl 4 rfl) ?_
      refine lv_iadd hx hb dX12_isOne_48 ?_
      obtain ⟨q12, h⟩ := ck_some h
      refine w_ild hF hW (pM_11 K a _) q12 dX12_isOne_49 ?_
      refine lv_icmp_ne (tgt := 107) hx hb dX12_isOne_50 (by decide) (fun q13 => ?_) (fun q13 => ?_)
      · have h := ifn q13 h
        refine lv_iconst (v := 0) hx hb dX12_isOne_107 (by decide) ?_
        obtain rfl := Option.some.inj h
        exact rt_i hF hr hk (bI_n false) (fun _ => 0) hW rfl dX12_isOne_108
      · have h := ifp q13 h
        refine lv_aload_n hx hb dX12_isOne_53 rfl (lv_at hl 0 rfl) ?_
        refine g_X12_93 hF hW dX12_isOne_54 ?_
        refine lv_iconst (v := 3) hx hb dX12_isOne_57 (by decide) ?_
        refine lv_iload_n hx hb dX12_isOne_58 rfl (lv_at hl 1 rfl) ?_
        refine lv_imul hx hb dX12_isOne_59 ?_
        refine lv_iload_n hx hb dX12_isOne_60 rfl (lv_at hl 2 rfl) ?_
        refine lv_iadd hx hb dX12_isOne_61 ?_
        obtain ⟨q14, h⟩ := ck_some h
        refine w_lld hF hW (pM_28 K a _) q14 dX12_isOne_62 ?_
        refine lv_aload_n hx hb dX12_isOne_63 rfl (lv_at hl 0 rfl) ?_
        refine g_X12_93 hF hW dX12_isOne_64 ?_
        refine lv_iconst (v := 3) hx hb dX12_isOne_67 (by decide) ?_
        refine lv_iload_n hx hb dX12_isOne_68 rfl (lv_at hl 3 rfl) ?_
        refine lv_imul hx hb dX12_isOne_69 ?_
        refine lv_iload hx hb dX12_isOne_70 (lv_at hl 4 rfl) ?_
        refine lv_iadd hx hb dX12_isOne_72 ?_
        obtain ⟨q15, h⟩ := ck_some h
        refine w_lld hF hW (pM_28 K a _) q15 dX12_isOne_73 ?_
        refine ll_ne (tgt := 107) hx hb dX12_isOne_74 dX12_isOne_75 (by decide) (fun q16 => ?_) (fun q16 => ?_)
        · have h := ifn q16 h
          refine lv_iconst (v := 0) hx hb dX12_isOne_107 (by decide) ?_
          obtain rfl := Option.some.inj h
          exact rt_i hF hr hk (bI_n false) (fun _ => 0) hW rfl dX12_isOne_108
        · have h := ifp q16 h
          refine lv_aload_n hx hb dX12_isOne_78 rfl (lv_at hl 0 rfl) ?_
          refine g_X12_96 hF hW dX12_isOne_79 ?_
          refine lv_iconst (v := 3) hx hb dX12_isOne_82 (by decide) ?_
          refine lv_iload_n hx hb dX12_isOne_83 rfl (lv_at hl 1 rfl) ?_
          refine lv_imul hx hb dX12_isOne_84 ?_
          refine lv_iload_n hx hb dX12_isOne_85 rfl (lv_at hl 2 rfl) ?_
          refine lv_iadd hx hb dX12_isOne_86 ?_
          obtain ⟨q17, h⟩ := ck_some h
          refine w_lld hF hW (pM_29 K a _) q17 dX12_isOne_87 ?_
          refine lv_aload_n hx hb dX12_isOne_88 rfl (lv_at hl 0 rfl) ?_
          refine g_X12_96 hF hW dX12_isOne_89 ?_
          refine lv_iconst (v := 3) hx hb dX12_isOne_92 (by decide) ?_
          refine lv_iload_n hx hb dX12_isOne_93 rfl (lv_at hl 3 rfl) ?_
          refine lv_imul hx hb dX12_isOne_94 ?_
          refine lv_iload hx hb dX12_isOne_95 (lv_at hl 4 rfl) ?_
          refine lv_iadd hx hb dX12_isOne_97 ?_
          obtain ⟨q18, h⟩ := ck_some h
          refine w_lld hF hW (pM_29 K a _) q18 dX12_isOne_98 ?_
          refine ll_ne (tgt := 107) hx hb dX12_isOne_99 dX12_isOne_100 (by decide) (fun q19 => ?_) (fun q19 => ?_)
          · have h := ifn q19 h
            refine lv_iconst (v := 0) hx hb dX12_isOne_107 (by decide) ?_
            obtain rfl := Option.some.inj h
            exact rt_i hF hr hk (bI_n false) (fun _ => 0) hW rfl dX12_isOne_108
          · have h := ifp q19 h
            refine lv_iconst (v := 1) hx hb dX12_isOne_103 (by decide) ?_
            refine lv_goto (tgt := 108) hx hb dX12_isOne_104 (by decide) ?_
            obtain rfl := Option.some.inj h
            exact rt_i hF hr hk (bI_n true) (fun _ => 0) hW rfl dX12_isOne_108
set_option maxRecDepth 100000 in
set_option maxHeartbeats 1000000 in
theorem c_X12_isNeed (l : Launch) (K : Kx) (a : Nat → Nat) {M : Mem} {x1 : Int32} {x2 : Int32} {x3 : Int32} {r0 : Bool} (h : f_X12_isNeed M x1 x2 x3 = some r0) : CMi l yX12_isNeed cX12_isNeed 4 (some .boolean) ({ frames := 2, cells := 0, slots := 0, locals := 46 } : Room) K [.ref (a 0), .int x1, .int x2, .int x3] (wM K a M) (fun _ => wM K a M) (bI r0) := by
  refine cs_i (by decide +kernel) (Nat.le_of_ble_eq_true rfl) ?_
  intro p e s m args below meth c A ls hF hr hk hnm hW hl
  have hx := hF.1
  have hb := hF.2.1
  have hl : lv_has ls 4 [(0, .ref (a 0)), (1, .int x1), (2, .int x2), (3, .int x3)] := hl
  obtain ⟨H, hH⟩ : ∃ z, z = s.heap := ⟨_, rfl⟩
  rw [← hH] at hW ⊢
  unfold f_X12_isNeed at h
  refine lv_iload_n hx hb dX12_isNeed_0 rfl (lv_at hl 3 rfl) ?_
  refine lv_iconst (v := 2) hx hb dX12_isNeed_1 (by decide) ?_
  refine lv_icmp_ne (tgt := 14) hx hb dX12_isNeed_2 (by decide) (fun q1 => ?_) (fun q1 => ?_)
  · have h := ifn q1 h
    refine lv_iload_n hx hb dX12_isNeed_14 rfl (lv_at hl 3 rfl) ?_
    refine lv_if_ne (tgt := 48) hx hb dX12_isNeed_15 (by decide) (fun q2 => ?_) (fun q2 => ?_)
    · have h := ifn q2 h
      refine lv_aload_n hx hb dX12_isNeed_48 rfl (lv_at hl 0 rfl) ?_
      refine lv_iload_n hx hb dX12_isNeed_49 rfl (lv_at hl 1 rfl) ?_
      refine lv_iconst (v := 1) hx hb dX12_isNeed_50 (by decide) ?_
      refine lv_iload_n hx hb dX12_isNeed_51 rfl (lv_at hl 2 rfl) ?_
      refine lv_iconst (v := 0) hx hb dX12_isNeed_52 (by decide) ?_
      obtain ⟨r3, hc5, h⟩ := bq_some h
      refine cV_i (ci := 12) (q0 := 0) (rest := []) hF hW mw_X12_266 (c_X12_isOne l K a hc5) ⟨Nat.le_of_ble_eq_true rfl, Nat.le_of_ble_eq_true rfl⟩ rfl rfl (pM_0 K a _) rfl hl.1 rfl (Nat.le_of_ble_eq_true rfl) dX12_isNeed_53 ⟨Nat.le_of_ble_eq_true rfl, Nat.le_of_ble_eq_true rfl⟩ (fun _ H locs hW => ?_)
      refine lz_ne (tgt := 70) hx hb dX12_isNeed_56 (by decide) (fun q6 => ?_) (fun q6 => ?_)
      · have h := ifp q6 h
        refine lv_iconst (v := 1) hx hb dX12_isNeed_70 (by decide) ?_
        refine lv_goto (tgt := 75) hx hb dX12_isNeed_71 (by decide) ?_
        obtain rfl := Option.some.inj h
        exact rt_i hF hr hk (bI_n true) (fun _ => 0) hW rfl dX12_isNeed_75
      · have h := ifn q6 h
        refine lv_aload_n hx hb dX12_isNeed_59 rfl (lv_at hl 0 rfl) ?_
        refine lv_iload_n hx hb dX12_isNeed_60 rfl (lv_at hl 1 rfl) ?_
        refine lv_iconst (v := 2) hx hb dX12_isNeed_61 (by decide) ?_
        refine lv_iload_n hx hb dX12_isNeed_62 rfl (lv_at hl 2 rfl) ?_
        refine lv_iconst (v := 0) hx hb dX12_isNeed_63 (by decide) ?_
        obtain ⟨r7, hc9, h⟩ := bq_some h
        refine cV_i (ci := 12) (q0 := 0) (rest := []) hF hW mw_X12_266 (c_X12_isOne l K a hc9) ⟨Nat.le_of_ble_eq_true rfl, Nat.le_of_ble_eq_true rfl⟩ rfl rfl (pM_0 K a _) rfl hl.1 rfl (Nat.le_of_ble_eq_true rfl) dX12_isNeed_64 ⟨Nat.le_of_ble_eq_true rfl, Nat.le_of_ble_eq_true rfl⟩ (fun _ H locs hW => ?_)
        refine lz_eq (tgt := 74) hx hb dX12_isNeed_67 (by decide) (fun q10 => ?_) (fun q10 => ?_)
        · have h := ifn q10 h
          refine lv_iconst (v := 0) hx hb dX12_isNeed_74 (by decide) ?_
          obtain rfl := Option.some.inj h
          exact rt_i hF hr hk (bI_n false) (fun _ => 0) hW rfl dX12_isNeed_75
        · have h := ifp q10 h
          refine lv_iconst (v := 1) hx hb dX12_isNeed_70 (by decide) ?_
          refine lv_goto (tgt := 75) hx hb dX12_isNeed_71 (by decide) ?_
          obtain rfl := Option.some.inj h
          exact rt_i hF hr hk (bI_n true) (fun _ => 0) hW rfl dX12_isNeed_75
    · have h := ifp q2 h
      refine lv_aload_n hx hb dX12_isNeed_18 rfl (lv_at hl 0 rfl) ?_
      refine lv_iload_n hx hb dX12_isNeed_19 rfl (lv_at hl 1 rfl) ?_
      refine lv_iconst (v := 0) hx hb dX12_isNeed_20 (by decide) ?_
      refine lv_iload_n hx hb dX12_isNeed_21 rfl (lv_at hl 2 rfl) ?_
      refine lv_iconst (v := 1) hx hb dX12_isNeed_22 (by decide) ?_
      obtain ⟨r11, hc13, h⟩ := bq_some h
      refine cV_i (ci := 12) (q0 := 0) (rest := []) hF hW mw_X12_266 (c_X12_isOne l K a hc13) ⟨Nat.le_of_ble_eq_true rfl, Nat.le_of_ble_eq_true rfl⟩ rfl rfl (pM_0 K a _) rfl hl.1 rfl (Nat.le_of_ble_eq_true rfl) dX12_isNeed_23 ⟨Nat.le_of_ble_eq_true rfl, Nat.le_of_ble_eq_true rfl⟩ (fun _ H locs hW => ?_)
      refine lz_ne (tgt := 40) hx hb dX12_isNeed_26 (by decide) (fun q14 => ?_) (fun q14 => ?_)
      · have h := ifp q14 h
        refine lv_iconst (v := 1) hx hb dX12_isNeed_40 (by decide) ?_
        refine lv_goto (tgt := 75) hx hb dX12_isNeed_41 (by decide) ?_
        obtain rfl := Option.some.inj h
        exact rt_i hF hr hk (bI_n true) (fun _ => 0) hW rfl dX12_isNeed_75
      · have h := ifn q14 h
        refine lv_aload_n hx hb dX12_isNeed_29 rfl (lv_at hl 0 rfl) ?_
        refine lv_iload_n hx hb dX12_isNeed_30 rfl (lv_at hl 1 rfl) ?_
        refine lv_iconst (v := 0) hx hb dX12_isNeed_31 (by decide) ?_
        refine lv_iload_n hx hb dX12_isNeed_32 rfl (lv_at hl 2 rfl) ?_
        refine lv_iconst (v := 2) hx hb dX12_isNeed_33 (by decide) ?_
        obtain ⟨r15, hc17, h⟩ := bq_some h
        refine cV_i (ci := 12) (q0 := 0) (rest := []) hF hW mw_X12_266 (c_X12_isOne l K a hc17) ⟨Nat.le_of_ble_eq_true rfl, Nat.le_of_ble_eq_true rfl⟩ rfl rfl (pM_0 K a _) rfl hl.1 rfl (Nat.le_of_ble_eq_true rfl) dX12_isNeed_34 ⟨Nat.le_of_ble_eq_true rfl, Nat.le_of_ble_eq_true rfl⟩ (fun _ H locs hW => ?_)
        refine lz_eq (tgt := 44) hx hb dX12_isNeed_37 (by decide) (fun q18 => ?_) (fun q18 => ?_)
        · have h := ifn q18 h
          refine lv_iconst (v := 0) hx hb dX12_isNeed_44 (by decide) ?_
          refine lv_goto (tgt := 75) hx hb dX12_isNeed_45 (by decide) ?_
          obtain rfl := Option.some.inj h
          exact rt_i hF hr hk (bI_n false) (fun _ => 0) hW rfl dX12_isNeed_75
        · have h := ifp q18 h
          refine lv_iconst (v := 1) hx hb dX12_isNeed_40 (by decide) ?_
          refine lv_goto (tgt := 75) hx hb dX12_isNeed_41 (by decide) ?_
          obtain rfl := Option.some.inj h
          exact rt_i hF hr hk (bI_n true) (fun _ => 0) hW rfl dX12_isNeed_75
  · have h := ifp q1 h
    refine lv_aload_n hx hb dX12_isNeed_5 rfl (lv_at hl 0 rfl) ?_
    refine lv_iload_n hx hb dX12_isNeed_6 rfl (lv_at hl 1 rfl) ?_
    refine lv_iconst (v := 0) hx hb dX12_isNeed_7 (by decide) ?_
    refine lv_iload_n hx hb dX12_isNeed_8 rfl (lv_at hl 2 rfl) ?_
    refine lv_iconst (v := 0) hx hb dX12_isNeed_9 (by decide) ?_
    obtain ⟨r19, hc21, h⟩ := bq_some h
    refine cV_i (ci := 12) (q0 := 0) (rest := []) hF hW mw_X12_266 (c_X12_isOne l K a hc21) ⟨Nat.le_of_ble_eq_true rfl, Nat.le_of_ble_eq_true rfl⟩ rfl rfl (pM_0 K a _) rfl hl.1 rfl (Nat.le_of_ble_eq_true rfl) dX12_isNeed_10 ⟨Nat.le_of_ble_eq_true rfl, Nat.le_of_ble_eq_true rfl⟩ (fun _ H locs hW => ?_)
    obtain rfl := Option.some.inj h
    exact rt_i hF hr hk (bI_n _) (fun _ => 0) hW rfl dX12_isNeed_13
set_option maxRecDepth 100000 in
set_option maxHeartbeats 1000000 in
theorem c_X12_loopOf (l : Launch) (K : Kx) (a : Nat → Nat) {M : Mem} {x1 : Int32} {x2 : Int32} {r0 : Int32} (h : f_X12_loopOf M x1 x2 = some r0) : CMi l yX12_loopOf cX12_loopOf 4 (some .int) ({ frames := 1, cells := 0, slots := 0, locals := 21 } : Room) K [.ref (a 0), .int x1, .int x2] (wM K a M) (fun _ => wM K a M) r0 := by
  refine cs_i (by decide +kernel) (Nat.le_of_ble_eq_true rfl) ?_
  intro p e s m args below meth c A ls hF hr hk hnm hW hl
  have hx := hF.1
  have hb := hF.2.1
  have hl : lv_has ls 4 [(0, .ref (a 0)), (1, .int x1), (2, .int x2)] := hl
  obtain ⟨H, hH⟩ : ∃ z, z = s.heap := ⟨_, rfl⟩
  rw [← hH] at hW ⊢
  have J7 : ∀ (n7 : Nat) (x2 : Int32) (x3 : Int32) (M : Mem) (H : Heap) (locs : List Loc) (ls : Array Slot), f_X12_loopOf_7 n7 x2 x3 M = some r0 → Wd K A s (wM K a M) H locs → lv_has ls 4 [(0, .ref (a 0)), (2, .int x2), (3, .int x3)] → W p l e ({ frames := 1, cells := 0, slots := 0, locals := 21 } : Room) s m args below meth c H locs 0 0 (EndI K A (fun _ => wM K a M) r0 below args s ({ frames := 1, cells := 0, slots := 0, locals := 21 } : Room)) (F0 m 7 ls []) := by
    intro n7
    induction n7 with
    | zero => intro x2 x3 M H locs ls h; exact absurd h (by simp [f_X12_loopOf_7])
    | succ n7 ih7 =>
      intro x2 x3 M H locs ls h hW hl
      rw [f_X12_loopOf_7] at h
      refine lv_iload_n hx hb dX12_loopOf_7 rfl (lv_at hl 2 rfl) ?_
      refine lv_bipush (v := (-9)) hx hb dX12_loopOf_8 (by decide) ?_
      refine lv_icmp_eq (tgt := 41) hx hb dX12_loopOf_10 (by decide) (fun q2 => ?_) (fun q2 => ?_)
      · have h := ifp q2 h
        refine lv_iload_n hx hb dX12_loopOf_41 rfl (lv_at hl 2 rfl) ?_
        obtain rfl := Option.some.inj h
        exact rt_i hF hr hk rfl (fun _ => 0) hW rfl dX12_loopOf_42
      · have h := ifn q2 h
        refine lv_aload_n hx hb dX12_loopOf_13 rfl (lv_at hl 0 rfl) ?_
        refine lv_iload_n hx hb dX12_loopOf_14 rfl (lv_at hl 2 rfl) ?_
        obtain ⟨r3, hc5, h⟩ := bq_some h
        refine cV_i (ci := 12) (q0 := 0) (rest := []) hF hW mw_X12_173 (c_X12_isLoop l K a hc5) ⟨Nat.le_of_ble_eq_true rfl, Nat.le_of_ble_eq_true rfl⟩ rfl rfl (pM_0 K a _) rfl hl.1 rfl (Nat.le_of_ble_eq_true rfl) dX12_loopOf_15 ⟨Nat.le_of_ble_eq_true rfl, Nat.le_of_ble_eq_true rfl⟩ (fun _ H locs hW => ?_)
        refine lz_eq (tgt := 31) hx hb dX12_loopOf_18 (by decide) (fun q6 => ?_) (fun q6 => ?_)
        · have h := ifn q6 h
          refine lv_aload_n hx hb dX12_loopOf_31 rfl (lv_at hl 0 rfl) ?_
          refine g_X12_29 hF hW dX12_loopOf_32 ?_
          refine lv_iload_n hx hb dX12_loopOf_35 rfl (lv_at hl 2 rfl) ?_
          obtain ⟨q7, h⟩ := ck_some h
          refine w_ild hF hW (pM_7 K a _) q7 dX12_loopOf_36 ?_
          refine lv_istore_n (lv' := [(3, .int (M.1 7 x3.toNatClampNeg)), (0, .ref (a 0)), (2, .int x2)]) hx hb dX12_loopOf_37 rfl hl (by decide) rfl (fun ls hl => ?_)
          refine lv_goto (tgt := 7) hx hb dX12_loopOf_38 (by decide) ?_
          exact ih7 x2 (M.1 7 x3.toNatClampNeg) _ _ _ _ h hW (lv_sub hl [1, 2, 0] rfl)
        · have h := ifp q6 h
          refine lv_aload_n hx hb dX12_loopOf_21 rfl (lv_at hl 0 rfl) ?_
          refine g_X12_32 hF hW dX12_loopOf_22 ?_
          refine lv_iload_n hx hb dX12_loopOf_25 rfl (lv_at hl 2 rfl) ?_
          obtain ⟨q8, h⟩ := ck_some h
          refine w_ild hF hW (pM_8 K a _) q8 dX12_loopOf_26 ?_
          refine lv_iload_n hx hb dX12_loopOf_27 rfl (lv_at hl 1 rfl) ?_
          refine lv_icmp_eq (tgt := 41) hx hb dX12_loopOf_28 (by decide) (fun q9 => ?_) (fun q9 => ?_)
          · have h := ifp q9 h
            refine lv_iload_n hx hb dX12_loopOf_41 rfl (lv_at hl 2 rfl) ?_
            obtain rfl := Option.some.inj h
            exact rt_i hF hr hk rfl (fun _ => 0) hW rfl dX12_loopOf_42
          · have h := ifn q9 h
            refine lv_aload_n hx hb dX12_loopOf_31 rfl (lv_at hl 0 rfl) ?_
            refine g_X12_29 hF hW dX12_loopOf_32 ?_
            refine lv_iload_n hx hb dX12_loopOf_35 rfl (lv_at hl 2 rfl) ?_
            obtain ⟨q10, h⟩ := ck_some h
            refine w_ild hF hW (pM_7 K a _) q10 dX12_loopOf_36 ?_
            refine lv_istore_n (lv' := [(3, .int (M.1 7 x3.toNatClampNeg)), (0, .ref (a 0)), (2, .int x2)]) hx hb dX12_loopOf_37 rfl hl (by decide) rfl (fun ls hl => ?_)
            refine lv_goto (tgt := 7) hx hb dX12_loopOf_38 (by decide) ?_
            exact ih7 x2 (M.1 7 x3.toNatClampNeg) _ _ _ _ h hW (lv_sub hl [1, 2, 0] rfl)
  unfold f_X12_loopOf at h
  refine lv_aload_n hx hb dX12_loopOf_0 rfl (lv_at hl 0 rfl) ?_
  refine g_X12_29 hF hW dX12_loopOf_1 ?_
  refine lv_iload_n hx hb dX12_loopOf_4 rfl (lv_at hl 1 rfl) ?_
  obtain ⟨q1, h⟩ := ck_some h
  refine w_ild hF hW (pM_7 K a _) q1 dX12_loopOf_5 ?_
  refine lv_istore_n (lv' := [(3, .int (M.1 7 x1.toNatClampNeg)), (0, .ref (a 0)), (1, .int x1), (2, .int x2)]) hx hb dX12_loopOf_6 rfl hl (by decide) rfl (fun ls hl => ?_)
  exact J7 100000 x2 (M.1 7 x1.toNatClampNeg) _ _ _ _ h hW (lv_sub hl [1, 3, 0] rfl)
set_option maxRecDepth 100000 in
set_option maxHeartbeats 1000000 in
theorem c_X12_carrier (l : Launch) (K : Kx) (a : Nat → Nat) {M : Mem} {x1 : Int32} {x2 : Int32} {r0 : Int32} (h : f_X12_carrier M x1 x2 = some r0) : CMi l yX12_carrier cX12_carrier 5 (some .int) ({ frames := 2, cells := 0, slots := 0, locals := 44 } : Room) K [.ref (a 0), .int x1, .int x2] (wM K a M) (fun _ => wM K a M) r0 := by
  refine cs_i (by decide +kernel) (Nat.le_of_ble_eq_true rfl) ?_
  intro p e s m args below meth c A ls hF hr hk hnm hW hl
  have hx := hF.1
  have hb := hF.2.1
  have hl : lv_has ls 5 [(0, .ref (a 0)), (1, .int x1), (2, .int x2)] := hl
  obtain ⟨H, hH⟩ : ∃ z, z = s.heap := ⟨_, rfl⟩
  rw [← hH] at hW ⊢
  have J2 : ∀ (n2 : Nat) (x1 : Int32) (x2 : Int32) (x3 : Int32) (M : Mem) (H : Heap) (locs : List Loc) (ls : Array Slot), f_X12_carrier_2 n2 x1 x2 x3 M = some r0 → Wd K A s (wM K a M) H locs → lv_has ls 5 [(0, .ref (a 0)), (1, .int x1), (2, .int x2), (3, .int x3)] → W p l e ({ frames := 2, cells := 0, slots := 0, locals := 44 } : Room) s m args below meth c H locs 0 0 (EndI K A (fun _ => wM K a M) r0 below args s ({ frames := 2, cells := 0, slots := 0, locals := 44 } : Room)) (F0 m 2 ls []) := by
    intro n2
    induction n2 with
    | zero => intro x1 x2 x3 M H locs ls h; exact absurd h (by simp [f_X12_carrier_2])
    | succ n2 ih2 =>
      intro x1 x2 x3 M H locs ls h hW hl
      rw [f_X12_carrier_2] at h
      refine lv_iload_n hx hb dX12_carrier_2 rfl (lv_at hl 3 rfl) ?_
      refine lv_iconst (v := 4) hx hb dX12_carrier_3 (by decide) ?_
      refine lv_icmp_ge (tgt := 78) hx hb dX12_carrier_4 (by decide) (fun q1 => ?_) (fun q1 => ?_)
      · have h := ifp q1 h
        refine lv_bipush (v := (-9)) hx hb dX12_carrier_78 (by decide) ?_
        obtain rfl := Option.some.inj h
        exact rt_i hF hr hk rfl (fun _ => 0) hW rfl dX12_carrier_80
      · have h := ifn q1 h
        refine lv_aload_n hx hb dX12_carrier_7 rfl (lv_at hl 0 rfl) ?_
        refine lv_aload_n hx hb dX12_carrier_8 rfl (lv_at hl 0 rfl) ?_
        refine g_X12_78 hF hW dX12_carrier_9 ?_
        refine lv_iload_n hx hb dX12_carrier_12 rfl (lv_at hl 1 rfl) ?_
        obtain ⟨q2, h⟩ := ck_some h
        refine w_ild hF hW (pM_23 K a _) q2 dX12_carrier_13 ?_
        refine lv_iload_n hx hb dX12_carrier_14 rfl (lv_at hl 3 rfl) ?_
        obtain ⟨r3, hc5, h⟩ := bq_some h
        refine cV_i (ci := 12) (q0 := 0) (rest := []) hF hW mw_X12_270 (c_X12_loopOf l K a hc5) ⟨Nat.le_of_ble_eq_true rfl, Nat.le_of_ble_eq_true rfl⟩ rfl rfl (pM_0 K a _) rfl hl.1 rfl (Nat.le_of_ble_eq_true rfl) dX12_carrier_15 ⟨Nat.le_of_ble_eq_true rfl, Nat.le_of_ble_eq_true rfl⟩ (fun _ H locs hW => ?_)
        refine lv_istore (lv' := [(4, .int r3), (0, .ref (a 0)), (1, .int x1), (2, .int x2), (3, .int x3)]) hx hb dX12_carrier_18 hl (by decide) rfl (fun ls hl => ?_)
        refine lv_iload hx hb dX12_carrier_20 (lv_at hl 0 rfl) ?_
        refine lv_bipush (v := (-9)) hx hb dX12_carrier_22 (by decide) ?_
        refine lv_icmp_eq (tgt := 43) hx hb dX12_carrier_24 (by decide) (fun q6 => ?_) (fun q6 => ?_)
        · have h := ifp q6 h
          refine lv_bipush (v := (-9)) hx hb dX12_carrier_43 (by decide) ?_
          obtain rfl := Option.some.inj h
          exact rt_i hF hr hk rfl (fun _ => 0) hW rfl dX12_carrier_45
        · have h := ifn q6 h
          refine lv_iload hx hb dX12_carrier_27 (lv_at hl 0 rfl) ?_
          refine lv_aload_n hx hb dX12_carrier_29 rfl (lv_at hl 1 rfl) ?_
          refine lv_aload_n hx hb dX12_carrier_30 rfl (lv_at hl 1 rfl) ?_
          refine g_X12_78 hF hW dX12_carrier_31 ?_
          refine lv_iload_n hx hb dX12_carrier_34 rfl (lv_at hl 3 rfl) ?_
          obtain ⟨q7, h⟩ := ck_some h
          refine w_ild hF hW (pM_23 K a _) q7 dX12_carrier_35 ?_
          refine lv_iload_n hx hb dX12_carrier_36 rfl (lv_at hl 4 rfl) ?_
          obtain ⟨r8, hc10, h⟩ := bq_some h
          refine cV_i (ci := 12) (q0 := 0) (rest := [.int r3]) hF hW mw_X12_270 (c_X12_loopOf l K a hc10) ⟨Nat.le_of_ble_eq_true rfl, Nat.le_of_ble_eq_true rfl⟩ rfl rfl (pM_0 K a _) rfl hl.1 rfl (Nat.le_of_ble_eq_true rfl) dX12_carrier_37 ⟨Nat.le_of_ble_eq_true rfl, Nat.le_of_ble_eq_true rfl⟩ (fun _ H locs hW => ?_)
          refine lv_icmp_eq (tgt := 46) hx hb dX12_carrier_40 (by decide) (fun q11 => ?_) (fun q11 => ?_)
          · have h := ifp q11 h
            refine lv_aload_n hx hb dX12_carrier_46 rfl (lv_at hl 1 rfl) ?_
            refine g_X12_81 hF hW dX12_carrier_47 ?_
            refine lv_iconst (v := 4) hx hb dX12_carrier_50 (by decide) ?_
            refine lv_iload_n hx hb dX12_carrier_51 rfl (lv_at hl 2 rfl) ?_
            refine lv_imul hx hb dX12_carrier_52 ?_
            refine lv_iload_n hx hb dX12_carrier_53 rfl (lv_at hl 4 rfl) ?_
            refine lv_iadd hx hb dX12_carrier_54 ?_
            obtain ⟨q12, h⟩ := ck_some h
            refine w_lld hF hW (pM_24 K a _) q12 dX12_carrier_55 ?_
            refine lv_aload_n hx hb dX12_carrier_56 rfl (lv_at hl 1 rfl) ?_
            refine g_X12_81 hF hW dX12_carrier_57 ?_
            refine lv_iconst (v := 4) hx hb dX12_carrier_60 (by decide) ?_
            refine lv_iload_n hx hb dX12_carrier_61 rfl (lv_at hl 3 rfl) ?_
            refine lv_imul hx hb dX12_carrier_62 ?_
            refine lv_iload_n hx hb dX12_carrier_63 rfl (lv_at hl 4 rfl) ?_
            refine lv_iadd hx hb dX12_carrier_64 ?_
            obtain ⟨q13, h⟩ := ck_some h
            refine w_lld hF hW (pM_24 K a _) q13 dX12_carrier_65 ?_
            refine ll_eq (tgt := 72) hx hb dX12_carrier_66 dX12_carrier_67 (by decide) (fun q14 => ?_) (fun q14 => ?_)
            · have h := ifp q14 h
              refine lv_iinc (v := (x3 + 1)) (lv' := [(3, .int (x3 + 1)), (4, .int r3), (0, .ref (a 0)), (1, .int x1), (2, .int x2)]) hx hb dX12_carrier_72 hl (k := 4) rfl rfl (by decide) rfl (fun ls hl => ?_)
              refine lv_goto (tgt := 2) hx hb dX12_carrier_75 (by decide) ?_
              exact ih2 x1 x2 (x3 + 1) _ _ _ _ h hW (lv_sub hl [2, 3, 4, 0] rfl)
            · have h := ifn q14 h
              refine lv_iload_n hx hb dX12_carrier_70 rfl (lv_at hl 4 rfl) ?_
              obtain rfl := Option.some.inj h
              exact rt_i hF hr hk rfl (fun _ => 0) hW rfl dX12_carrier_71
          · have h := ifn q11 h
            refine lv_bipush (v := (-9)) hx hb dX12_carrier_43 (by decide) ?_
            obtain rfl := Option.some.inj h
            exact rt_i hF hr hk rfl (fun _ => 0) hW rfl dX12_carrier_45
  unfold f_X12_carrier at h
  refine lv_iconst (v := 0) hx hb dX12_carrier_0 (by decide) ?_
  refine lv_istore_n (lv' := [(3, .int 0), (0, .ref (a 0)), (1, .int x1), (2, .int x2)]) hx hb dX12_carrier_1 rfl hl (by decide) rfl (fun ls hl => ?_)
  exact J2 100000 x1 x2 0 _ _ _ _ h hW (lv_sub hl [1, 2, 3, 0] rfl)
set_option maxRecDepth 100000 in
set_option maxHeartbeats 1000000 in
theorem c_X12_isIn (l : Launch) (K : Kx) (a : Nat → Nat) {M : Mem} {x1 : Int32} {x2 : Int32} {r0 : Bool} (h : f_X12_isIn M x1 x2 = some r0) : CMi l yX12_isIn cX12_isIn 4 (some .boolean) ({ frames := 0, cells := 0, slots := 0, locals := 0 } : Room) K [.ref (a 0), .int x1, .int x2] (wM K a M) (fun _ => wM K a M) (bI r0) := by
  refine cs_i (by decide +kernel) (Nat.le_of_ble_eq_true rfl) ?_
  intro p e s m args below meth c A ls hF hr hk hnm hW hl
  have hx := hF.1
  have hb := hF.2.1
  have hl : lv_has ls 4 [(0, .ref (a 0)), (1, .int x1), (2, .int x2)] := hl
  obtain ⟨H, hH⟩ : ∃ z, z = s.heap := ⟨_, rfl⟩
  rw [← hH] at hW ⊢
  have J7 : ∀ (n7 : Nat) (x2 : Int32) (x3 : Int32) (M : Mem) (H : Heap) (locs : List Loc) (ls : Array Slot), f_X12_isIn_7 n7 x2 x3 M = some r0 → Wd K A s (wM K a M) H locs → lv_has ls 4 [(0, .ref (a 0)), (2, .int x2), (3, .int x3)] → W p l e ({ frames := 0, cells := 0, slots := 0, locals := 0 } : Room) s m args below meth c H locs 0 0 (EndI K A (fun _ => wM K a M) (bI r0) below args s ({ frames := 0, cells := 0, slots := 0, locals := 0 } : Room)) (F0 m 7 ls []) := by
    intro n7
    induction n7 with
    | zero => intro x2 x3 M H locs ls h; exact absurd h (by simp [f_X12_isIn_7])
    | succ n7 ih7 =>
      have J28 : ∀ (x2 : Int32) (x3 : Int32) (M : Mem) (H : Heap) (locs : List Loc) (ls : Array Slot), f_X12_isIn_28 x2 x3 M = some r0 → Wd K A s (wM K a M) H locs → lv_has ls 4 [(2, .int x2), (3, .int x3)] → W p l e ({ frames := 0, cells := 0, slots := 0, locals := 0 } : Room) s m args below meth c H locs 0 0 (EndI K A (fun _ => wM K a M) (bI r0) below args s ({ frames := 0, cells := 0, slots := 0, locals := 0 } : Room)) (F0 m 28 ls []) := by
        intro x2 x3 M H locs ls h hW hl
        unfold f_X12_isIn_28 at h
        refine lv_iload_n hx hb dX12_isIn_28 rfl (lv_at hl 1 rfl) ?_
        refine lv_iload_n hx hb dX12_isIn_29 rfl (lv_at hl 0 rfl) ?_
        refine lv_icmp_ne (tgt := 37) hx hb dX12_isIn_30 (by decide) (fun q5 => ?_) (fun q5 => ?_)
        · have h := ifn q5 h
          refine lv_iconst (v := 0) hx hb dX12_isIn_37 (by decide) ?_
          obtain rfl := Option.some.inj h
          exact rt_i hF hr hk (bI_n false) (fun _ => 0) hW rfl dX12_isIn_38
        · have h := ifp q5 h
          refine lv_iconst (v := 1) hx hb dX12_isIn_33 (by decide) ?_
          refine lv_goto (tgt := 38) hx hb dX12_isIn_34 (by decide) ?_
          obtain rfl := Option.some.inj h
          exact rt_i hF hr hk (bI_n true) (fun _ => 0) hW rfl dX12_isIn_38
      intro x2 x3 M H locs ls h hW hl
      rw [f_X12_isIn_7] at h
      refine lv_iload_n hx hb dX12_isIn_7 rfl (lv_at hl 2 rfl) ?_
      refine lv_bipush (v := (-9)) hx hb dX12_isIn_8 (by decide) ?_
      refine lv_icmp_eq (tgt := 28) hx hb dX12_isIn_10 (by decide) (fun q2 => ?_) (fun q2 => ?_)
      · have h := ifp q2 h
        exact J28 x2 x3 _ _ _ _ h hW (lv_sub hl [1, 2] rfl)
      · have h := ifn q2 h
        refine lv_iload_n hx hb dX12_isIn_13 rfl (lv_at hl 2 rfl) ?_
        refine lv_iload_n hx hb dX12_isIn_14 rfl (lv_at hl 1 rfl) ?_
        refine lv_icmp_eq (tgt := 28) hx hb dX12_isIn_15 (by decide) (fun q3 => ?_) (fun q3 => ?_)
        · have h := ifp q3 h
          exact J28 x2 x3 _ _ _ _ h hW (lv_sub hl [1, 2] rfl)
        · have h := ifn q3 h
          refine lv_aload_n hx hb dX12_isIn_18 rfl (lv_at hl 0 rfl) ?_
          refine g_X12_29 hF hW dX12_isIn_19 ?_
          refine lv_iload_n hx hb dX12_isIn_22 rfl (lv_at hl 2 rfl) ?_
          obtain ⟨q4, h⟩ := ck_some h
          refine w_ild hF hW (pM_7 K a _) q4 dX12_isIn_23 ?_
          refine lv_istore_n (lv' := [(3, .int (M.1 7 x3.toNatClampNeg)), (0, .ref (a 0)), (2, .int x2)]) hx hb dX12_isIn_24 rfl hl (by decide) rfl (fun ls hl => ?_)
          refine lv_goto (tgt := 7) hx hb dX12_isIn_25 (by decide) ?_
          exact ih7 x2 (M.1 7 x3.toNatClampNeg) _ _ _ _ h hW (lv_sub hl [1, 2, 0] rfl)
  unfold f_X12_isIn at h
  refine lv_aload_n hx hb dX12_isIn_0 rfl (lv_at hl 0 rfl) ?_
  refine g_X12_29 hF hW dX12_isIn_1 ?_
  refine lv_iload_n hx hb dX12_isIn_4 rfl (lv_at hl 1 rfl) ?_
  obtain ⟨q1, h⟩ := ck_some h
  refine w_ild hF hW (pM_7 K a _) q1 dX12_isIn_5 ?_
  refine lv_istore_n (lv' := [(3, .int (M.1 7 x1.toNatClampNeg)), (0, .ref (a 0)), (1, .int x1), (2, .int x2)]) hx hb dX12_isIn_6 rfl hl (by decide) rfl (fun ls hl => ?_)
  exact J7 100000 x2 (M.1 7 x1.toNatClampNeg) _ _ _ _ h hW (lv_sub hl [1, 3, 0] rfl)
set_option maxRecDepth 100000 in
set_option maxHeartbeats 1000000 in
theorem c_X12_rowAt (l : Launch) (K : Kx) {ws : va_W} {x0 : Int32} {x1 : Int32} {r0 : Int32} (h : f_X12_rowAt x0 x1 = some r0) : CMi l yX12_rowAt cX12_rowAt 2 (some .int) ({ frames := 0, cells := 0, slots := 0, locals := 0 } : Room) K [.int x0, .int x1] ws (fun _ => ws) r0 := by
  refine cs_i (by decide +kernel) (Nat.le_of_ble_eq_true rfl) ?_
  intro p e s m args below meth c A ls hF hr hk hnm hW hl
  have hx := hF.1
  have hb := hF.2.1
  have hl : lv_has ls 2 [(0, .int x0), (1, .int x1)] := hl
  obtain ⟨H, hH⟩ : ∃ z, z = s.heap := ⟨_, rfl⟩
  rw [← hH] at hW ⊢
  unfold f_X12_rowAt at h
  refine lv_bipush (v := 7) hx hb dX12_rowAt_0 (by decide) ?_
  refine lv_bipush (v := 16) hx hb dX12_rowAt_2 (by decide) ?_
  refine lv_iload_n hx hb dX12_rowAt_4 rfl (lv_at hl 0 rfl) ?_
  refine lv_imul hx hb dX12_rowAt_5 ?_
  refine lv_iload_n hx hb dX12_rowAt_6 rfl (lv_at hl 1 rfl) ?_
  refine lv_iadd hx hb dX12_rowAt_7 ?_
  refine lv_imul hx hb dX12_rowAt_8 ?_
  obtain rfl := Option.some.inj h
  exact rt_i hF hr hk rfl (fun _ => 0) hW rfl dX12_rowAt_9
set_option maxRecDepth 100000 in
set_option maxHeartbeats 1000000 in
theorem c_X12_setRow (l : Launch) (K : Kx) (a : Nat → Nat) {M M0 : Mem} {x1 : Int32} {x2 : Int32} {x3 : Int32} {x4 : Int32}  (h : f_X12_setRow M x1 x2 x3 x4 = some M0) : CMv l yX12_setRow cX12_setRow 7 ({ frames := 1, cells := 0, slots := 0, locals := 21 } : Room) K [.ref (a 0), .int x1, .int x2, .int x3, .int x4] (wM K a M) (fun _ => wM K a M0) := by
  refine cs_v (by decide +kernel) (Nat.le_of_ble_eq_true rfl) ?_
  intro p e s m args below meth c A ls hF hr hk hnm hW hl
  have hx := hF.1
  have hb := hF.2.1
  have hl : lv_has ls 7 [(0, .ref (a 0)), (1, .int x1), (2, .int x2), (3, .int x3), (4, .int x4)] := hl
  obtain ⟨H, hH⟩ : ∃ z, z = s.heap := ⟨_, rfl⟩
  rw [← hH] at hW ⊢
  have J10 : ∀ (n10 : Nat) (x3 : Int32) (x4 : Int32) (x5 : Int32) (x6 : Int32) (M : Mem) (H : Heap) (locs : List Loc) (ls : Array Slot), f_X12_setRow_10 n10 x3 x4 x5 x6 M = some M0 → Wd K A s (wM K a M) H locs → lv_has ls 7 [(0, .ref (a 0)), (3, .int x3), (4, .int x4), (5, .int x5), (6, .int x6)] → W p l e ({ frames := 1, cells := 0, slots := 0, locals := 21 } : Room) s m args below meth c H locs 0 0 (EndV K A (fun _ => wM K a M0) below args s ({ frames := 1, cells := 0, slots := 0, locals := 21 } : Room)) (F0 m 10 ls []) := by
    intro n10
    induction n10 with
    | zero => intro x3 x4 x5 x6 M H locs ls h; exact absurd h (by simp [f_X12_setRow_10])
    | succ n10 ih10 =>
      have J62 : ∀ (x3 : Int32) (x4 : Int32) (x5 : Int32) (s1 : Int32) (s2 : Int32) (M : Mem) (H : Heap) (locs : List Loc) (ls : Array Slot), f_X12_setRow_62 x3 x4 x5 s1 s2 M = some M0 → Wd K A s (wM K a M) H locs → lv_has ls 7 [(0, .ref (a 0)), (3, .int x3), (4, .int x4), (5, .int x5)] → W p l e ({ frames := 1, cells := 0, slots := 0, locals := 21 } : Room) s m args below meth c H locs 0 0 (EndV K A (fun _ => wM K a M0) below args s ({ frames := 1, cells := 0, slots := 0, locals := 21 } : Room)) (F0 m 62 ls [.int s2, .int s1, .ref (a 31)]) := by
        have J75 : ∀ (x3 : Int32) (x4 : Int32) (x5 : Int32) (s1 : Int32) (s2 : Bool) (M : Mem) (H : Heap) (locs : List Loc) (ls : Array Slot), f_X12_setRow_75 x3 x4 x5 s1 s2 M = some M0 → Wd K A s (wM K a M) H locs → lv_has ls 7 [(0, .ref (a 0)), (3, .int x3), (4, .int x4), (5, .int x5)] → W p l e ({ frames := 1, cells := 0, slots := 0, locals := 21 } : Room) s m args below meth c H locs 0 0 (EndV K A (fun _ => wM K a M0) below args s ({ frames := 1, cells := 0, slots := 0, locals := 21 } : Room)) (F0 m 75 ls [.int (bI s2), .int s1, .ref (a 31)]) := by
          intro x3 x4 x5 s1 s2 M H locs ls h hW hl
          unfold f_X12_setRow_75 at h
          obtain ⟨q9, h⟩ := ck_some h
          refine w_ist hF hW (pM_31 K a _) q9 (uM_31 K a _ _ _) dX12_setRow_75 (fun H locs hW => ?_)
          refine lv_aload_n hx hb dX12_setRow_76 rfl (lv_at hl 0 rfl) ?_
          refine g_X12_102 hF hW dX12_setRow_77 ?_
          refine lv_iload hx hb dX12_setRow_80 (lv_at hl 3 rfl) ?_
          refine lv_iload_n hx hb dX12_setRow_82 rfl (lv_at hl 1 rfl) ?_
          obtain ⟨q10, h⟩ := ck_some h
          refine w_ist hF hW (pM_31 K a _) q10 (uM_31 K a _ _ _) dX12_setRow_83 (fun H locs hW => ?_)
          refine lv_aload_n hx hb dX12_setRow_84 rfl (lv_at hl 0 rfl) ?_
          refine g_X12_102 hF hW dX12_setRow_85 ?_
          refine lv_iload hx hb dX12_setRow_88 (lv_at hl 3 rfl) ?_
          refine lv_iconst (v := 5) hx hb dX12_setRow_90 (by decide) ?_
          refine lv_iadd hx hb dX12_setRow_91 ?_
          refine lv_iconst (v := 1) hx hb dX12_setRow_92 (by decide) ?_
          obtain ⟨q11, h⟩ := ck_some h
          refine w_ist hF hW (pM_31 K a _) q11 (uM_31 K a _ _ _) dX12_setRow_93 (fun H locs hW => ?_)
          refine lv_aload_n hx hb dX12_setRow_94 rfl (lv_at hl 0 rfl) ?_
          refine g_X12_102 hF hW dX12_setRow_95 ?_
          refine lv_iload hx hb dX12_setRow_98 (lv_at hl 3 rfl) ?_
          refine lv_bipush (v := 6) hx hb dX12_setRow_100 (by decide) ?_
          refine lv_iadd hx hb dX12_setRow_102 ?_
          refine lv_iload hx hb dX12_setRow_103 (lv_at hl 2 rfl) ?_
          obtain ⟨q12, h⟩ := ck_some h
          refine w_ist hF hW (pM_31 K a _) q12 (uM_31 K a _ _ _) dX12_setRow_105 (fun H locs hW => ?_)
          obtain rfl := Option.some.inj h
          exact rt_v hF hr hk (fun _ => 0) hW dX12_setRow_106
        intro x3 x4 x5 s1 s2 M H locs ls h hW hl
        unfold f_X12_setRow_62 at h
        refine lv_iadd hx hb dX12_setRow_62 ?_
        refine lv_iload hx hb dX12_setRow_63 (lv_at hl 2 rfl) ?_
        refine lv_bipush (v := (-9)) hx hb dX12_setRow_65 (by decide) ?_
        refine lv_icmp_ne (tgt := 74) hx hb dX12_setRow_67 (by decide) (fun q8 => ?_) (fun q8 => ?_)
        · have h := ifn q8 h
          refine lv_iconst (v := 1) hx hb dX12_setRow_74 (by decide) ?_
          exact J75 x3 x4 x5 (s1 + s2) true _ _ _ _ h hW (lv_sub hl [0, 1, 2, 3] rfl)
        · have h := ifp q8 h
          refine lv_iconst (v := 0) hx hb dX12_setRow_70 (by decide) ?_
          refine lv_goto (tgt := 75) hx hb dX12_setRow_71 (by decide) ?_
          exact J75 x3 x4 x5 (s1 + s2) false _ _ _ _ h hW (lv_sub hl [0, 1, 2, 3] rfl)
      intro x3 x4 x5 x6 M H locs ls h hW hl
      rw [f_X12_setRow_10] at h
      refine lv_iload hx hb dX12_setRow_10 (lv_at hl 4 rfl) ?_
      refine lv_iconst (v := 5) hx hb dX12_setRow_12 (by decide) ?_
      refine lv_icmp_ge (tgt := 33) hx hb dX12_setRow_13 (by decide) (fun q4 => ?_) (fun q4 => ?_)
      · have h := ifp q4 h
        refine lv_aload_n hx hb dX12_setRow_33 rfl (lv_at hl 0 rfl) ?_
        refine g_X12_102 hF hW dX12_setRow_34 ?_
        refine lv_iload hx hb dX12_setRow_37 (lv_at hl 3 rfl) ?_
        refine lv_iload_n hx hb dX12_setRow_39 rfl (lv_at hl 1 rfl) ?_
        obtain ⟨q5, h⟩ := ck_some h
        refine w_ist hF hW (pM_31 K a _) q5 (uM_31 K a _ _ _) dX12_setRow_40 (fun H locs hW => ?_)
        refine lv_aload_n hx hb dX12_setRow_41 rfl (lv_at hl 0 rfl) ?_
        refine g_X12_102 hF hW dX12_setRow_42 ?_
        refine lv_iload hx hb dX12_setRow_45 (lv_at hl 3 rfl) ?_
        refine lv_iconst (v := 1) hx hb dX12_setRow_47 (by decide) ?_
        refine lv_iadd hx hb dX12_setRow_48 ?_
        refine lv_iload hx hb dX12_setRow_49 (lv_at hl 2 rfl) ?_
        refine lv_bipush (v := (-9)) hx hb dX12_setRow_51 (by decide) ?_
        refine lv_icmp_ne (tgt := 60) hx hb dX12_setRow_53 (by decide) (fun q6 => ?_) (fun q6 => ?_)
        · have h := ifn q6 h
          refine lv_iload hx hb dX12_setRow_60 (lv_at hl 2 rfl) ?_
          exact J62 x3 x4 x5 (x5 + 1) x4 _ _ _ _ h hW (lv_sub hl [0, 1, 2, 3] rfl)
        · have h := ifp q6 h
          refine lv_iconst (v := 0) hx hb dX12_setRow_56 (by decide) ?_
          refine lv_goto (tgt := 62) hx hb dX12_setRow_57 (by decide) ?_
          exact J62 x3 x4 x5 (x5 + 1) 0 _ _ _ _ h hW (lv_sub hl [0, 1, 2, 3] rfl)
      · have h := ifn q4 h
        refine lv_aload_n hx hb dX12_setRow_16 rfl (lv_at hl 0 rfl) ?_
        refine g_X12_102 hF hW dX12_setRow_17 ?_
        refine lv_iload hx hb dX12_setRow_20 (lv_at hl 3 rfl) ?_
        refine lv_iload hx hb dX12_setRow_22 (lv_at hl 4 rfl) ?_
        refine lv_iadd hx hb dX12_setRow_24 ?_
        refine lv_iconst (v := 0) hx hb dX12_setRow_25 (by decide) ?_
        obtain ⟨q7, h⟩ := ck_some h
        refine w_ist hF hW (pM_31 K a _) q7 (uM_31 K a _ _ _) dX12_setRow_26 (fun H locs hW => ?_)
        refine lv_iinc (v := (x6 + 1)) (lv' := [(6, .int (x6 + 1)), (0, .ref (a 0)), (3, .int x3), (4, .int x4), (5, .int x5)]) hx hb dX12_setRow_27 hl (k := 4) rfl rfl (by decide) rfl (fun ls hl => ?_)
        refine lv_goto (tgt := 10) hx hb dX12_setRow_30 (by decide) ?_
        exact ih10 x3 x4 x5 (x6 + 1) _ _ _ _ h hW (lv_sub hl [1, 2, 3, 4, 0] rfl)
  unfold f_X12_setRow at h
  refine lv_iload_n hx hb dX12_setRow_0 rfl (lv_at hl 1 rfl) ?_
  refine lv_iload_n hx hb dX12_setRow_1 rfl (lv_at hl 2 rfl) ?_
  obtain ⟨r1, hc3, h⟩ := bq_some h
  refine cS_i (rest := []) hF hW mw_X12_295 (c_X12_rowAt l K hc3) ⟨Nat.le_of_ble_eq_true rfl, Nat.le_of_ble_eq_true rfl⟩ rfl hl.1 rfl (Nat.le_of_ble_eq_true rfl) dX12_setRow_2 ⟨Nat.le_of_ble_eq_true rfl, Nat.le_of_ble_eq_true rfl⟩ (fun _ H locs hW => ?_)
  refine lv_istore (lv' := [(5, .int r1), (0, .ref (a 0)), (1, .int x1), (2, .int x2), (3, .int x3), (4, .int x4)]) hx hb dX12_setRow_5 hl (by decide) rfl (fun ls hl => ?_)
  refine lv_iconst (v := 0) hx hb dX12_setRow_7 (by decide) ?_
  refine lv_istore (lv' := [(6, .int 0), (5, .int r1), (0, .ref (a 0)), (1, .int x1), (2, .int x2), (3, .int x3), (4, .int x4)]) hx hb dX12_setRow_8 hl (by decide) rfl (fun ls hl => ?_)
  exact J10 100000 x3 x4 r1 0 _ _ _ _ h hW (lv_sub hl [2, 5, 6, 1, 0] rfl)
set_option maxRecDepth 100000 in
set_option maxHeartbeats 1000000 in
theorem c_X12_placeOf (l : Launch) (K : Kx) (a : Nat → Nat) {M : Mem} {x1 : Int32} {x2 : Int32} {r0 : Int32} (h : f_X12_placeOf M x1 x2 = some r0) : CMi l yX12_placeOf cX12_placeOf 4 (some .int) ({ frames := 1, cells := 0, slots := 0, locals := 21 } : Room) K [.ref (a 0), .int x1, .int x2] (wM K a M) (fun _ => wM K a M) r0 := by
  refine cs_i (by decide +kernel) (Nat.le_of_ble_eq_true rfl) ?_
  intro p e s m args below meth c A ls hF hr hk hnm hW hl
  have hx := hF.1
  have hb := hF.2.1
  have hl : lv_has ls 4 [(0, .ref (a 0)), (1, .int x1), (2, .int x2)] := hl
  obtain ⟨H, hH⟩ : ∃ z, z = s.heap := ⟨_, rfl⟩
  rw [← hH] at hW ⊢
  have J2 : ∀ (n2 : Nat) (x2 : Int32) (x3 : Int32) (M : Mem) (H : Heap) (locs : List Loc) (ls : Array Slot), f_X12_placeOf_2 n2 x2 x3 M = some r0 → Wd K A s (wM K a M) H locs → lv_has ls 4 [(0, .ref (a 0)), (2, .int x2), (3, .int x3)] → W p l e ({ frames := 1, cells := 0, slots := 0, locals := 21 } : Room) s m args below meth c H locs 0 0 (EndI K A (fun _ => wM K a M) r0 below args s ({ frames := 1, cells := 0, slots := 0, locals := 21 } : Room)) (F0 m 2 ls []) := by
    intro n2
    induction n2 with
    | zero => intro x2 x3 M H locs ls h; exact absurd h (by simp [f_X12_placeOf_2])
    | succ n2 ih2 =>
      intro x2 x3 M H locs ls h hW hl
      rw [f_X12_placeOf_2] at h
      refine lv_aload_n hx hb dX12_placeOf_2 rfl (lv_at hl 0 rfl) ?_
      refine g_X12_29 hF hW dX12_placeOf_3 ?_
      refine lv_iload_n hx hb dX12_placeOf_6 rfl (lv_at hl 2 rfl) ?_
      obtain ⟨q1, h⟩ := ck_some h
      refine w_ild hF hW (pM_7 K a _) q1 dX12_placeOf_7 ?_
      refine lv_bipush (v := (-9)) hx hb dX12_placeOf_8 (by decide) ?_
      refine lv_icmp_eq (tgt := 53) hx hb dX12_placeOf_10 (by decide) (fun q2 => ?_) (fun q2 => ?_)
      · have h := ifp q2 h
        refine lv_iload_n hx hb dX12_placeOf_53 rfl (lv_at hl 2 rfl) ?_
        obtain rfl := Option.some.inj h
        exact rt_i hF hr hk rfl (fun _ => 0) hW rfl dX12_placeOf_54
      · have h := ifn q2 h
        refine lv_aload_n hx hb dX12_placeOf_13 rfl (lv_at hl 0 rfl) ?_
        refine lv_aload_n hx hb dX12_placeOf_14 rfl (lv_at hl 0 rfl) ?_
        refine g_X12_29 hF hW dX12_placeOf_15 ?_
        refine lv_iload_n hx hb dX12_placeOf_18 rfl (lv_at hl 2 rfl) ?_
        obtain ⟨q3, h⟩ := ck_some h
        refine w_ild hF hW (pM_7 K a _) q3 dX12_placeOf_19 ?_
        obtain ⟨r4, hc6, h⟩ := bq_some h
        refine cV_i (ci := 12) (q0 := 0) (rest := []) hF hW mw_X12_173 (c_X12_isLoop l K a hc6) ⟨Nat.le_of_ble_eq_true rfl, Nat.le_of_ble_eq_true rfl⟩ rfl rfl (pM_0 K a _) rfl hl.1 rfl (Nat.le_of_ble_eq_true rfl) dX12_placeOf_20 ⟨Nat.le_of_ble_eq_true rfl, Nat.le_of_ble_eq_true rfl⟩ (fun _ H locs hW => ?_)
        refine lz_eq (tgt := 43) hx hb dX12_placeOf_23 (by decide) (fun q7 => ?_) (fun q7 => ?_)
        · have h := ifn q7 h
          refine lv_aload_n hx hb dX12_placeOf_43 rfl (lv_at hl 0 rfl) ?_
          refine g_X12_29 hF hW dX12_placeOf_44 ?_
          refine lv_iload_n hx hb dX12_placeOf_47 rfl (lv_at hl 2 rfl) ?_
          obtain ⟨q8, h⟩ := ck_some h
          refine w_ild hF hW (pM_7 K a _) q8 dX12_placeOf_48 ?_
          refine lv_istore_n (lv' := [(3, .int (M.1 7 x3.toNatClampNeg)), (0, .ref (a 0)), (2, .int x2)]) hx hb dX12_placeOf_49 rfl hl (by decide) rfl (fun ls hl => ?_)
          refine lv_goto (tgt := 2) hx hb dX12_placeOf_50 (by decide) ?_
          exact ih2 x2 (M.1 7 x3.toNatClampNeg) _ _ _ _ h hW (lv_sub hl [1, 2, 0] rfl)
        · have h := ifp q7 h
          refine lv_aload_n hx hb dX12_placeOf_26 rfl (lv_at hl 0 rfl) ?_
          refine g_X12_32 hF hW dX12_placeOf_27 ?_
          refine lv_aload_n hx hb dX12_placeOf_30 rfl (lv_at hl 0 rfl) ?_
          refine g_X12_29 hF hW dX12_placeOf_31 ?_
          refine lv_iload_n hx hb dX12_placeOf_34 rfl (lv_at hl 2 rfl) ?_
          obtain ⟨q9, h⟩ := ck_some h
          refine w_ild hF hW (pM_7 K a _) q9 dX12_placeOf_35 ?_
          obtain ⟨q10, h⟩ := ck_some h
          refine w_ild hF hW (pM_8 K a _) q10 dX12_placeOf_36 ?_
          refine lv_iload_n hx hb dX12_placeOf_37 rfl (lv_at hl 1 rfl) ?_
          refine lv_iconst (v := 1) hx hb dX12_placeOf_38 (by decide) ?_
          refine lv_isub hx hb dX12_placeOf_39 ?_
          refine lv_icmp_eq (tgt := 53) hx hb dX12_placeOf_40 (by decide) (fun q11 => ?_) (fun q11 => ?_)
          · have h := ifp q11 h
            refine lv_iload_n hx hb dX12_placeOf_53 rfl (lv_at hl 2 rfl) ?_
            obtain rfl := Option.some.inj h
            exact rt_i hF hr hk rfl (fun _ => 0) hW rfl dX12_placeOf_54
          · have h := ifn q11 h
            refine lv_aload_n hx hb dX12_placeOf_43 rfl (lv_at hl 0 rfl) ?_
            refine g_X12_29 hF hW dX12_placeOf_44 ?_
            refine lv_iload_n hx hb dX12_placeOf_47 rfl (lv_at hl 2 rfl) ?_
            obtain ⟨q12, h⟩ := ck_some h
            refine w_ild hF hW (pM_7 K a _) q12 dX12_placeOf_48 ?_
            refine lv_istore_n (lv' := [(3, .int (M.1 7 x3.toNatClampNeg)), (0, .ref (a 0)), (2, .int x2)]) hx hb dX12_placeOf_49 rfl hl (by decide) rfl (fun ls hl => ?_)
            refine lv_goto (tgt := 2) hx hb dX12_placeOf_50 (by decide) ?_
            exact ih2 x2 (M.1 7 x3.toNatClampNeg) _ _ _ _ h hW (lv_sub hl [1, 2, 0] rfl)
  unfold f_X12_placeOf at h
  refine lv_iload_n hx hb dX12_placeOf_0 rfl (lv_at hl 1 rfl) ?_
  refine lv_istore_n (lv' := [(3, .int x1), (0, .ref (a 0)), (1, .int x1), (2, .int x2)]) hx hb dX12_placeOf_1 rfl hl (by decide) rfl (fun ls hl => ?_)
  exact J2 100000 x2 x1 _ _ _ _ h hW (lv_sub hl [1, 3, 0] rfl)
set_option maxRecDepth 100000 in
set_option maxHeartbeats 1000000 in
theorem c_X12_firstOrders (l : Launch) (K : Kx) (a : Nat → Nat) {M M0 : Mem}   (h : f_X12_firstOrders M = some M0) : CMv l yX12_firstOrders cX12_firstOrders 4 ({ frames := 2, cells := 0, slots := 0, locals := 47 } : Room) K [.ref (a 0)] (wM K a M) (fun _ => wM K a M0) := by
  refine cs_v (by decide +kernel) (Nat.le_of_ble_eq_true rfl) ?_
  intro p e s m args below meth c A ls hF hr hk hnm hW hl
  have hx := hF.1
  have hb := hF.2.1
  have hl : lv_has ls 4 [(0, .ref (a 0))] := hl
  obtain ⟨H, hH⟩ : ∃ z, z = s.heap := ⟨_, rfl⟩
  rw [← hH] at hW ⊢
  have J7 : ∀ (n7 : Nat) (x1 : Int32) (M : Mem) (H : Heap) (locs : List Loc) (ls : Array Slot), f_X12_firstOrders_7 n7 x1 M = some M0 → Wd K A s (wM K a M) H locs → lv_has ls 4 [(0, .ref (a 0)), (1, .int x1)] → W p l e ({ frames := 2, cells := 0, slots := 0, locals := 47 } : Room) s m args below meth c H locs 0 0 (EndV K A (fun _ => wM K a M0) below args s ({ frames := 2, cells := 0, slots := 0, locals := 47 } : Room)) (F0 m 7 ls []) := by
    intro n7
    induction n7 with
    | zero => intro x1 M H locs ls h; exact absurd h (by simp [f_X12_firstOrders_7])
    | succ n7 ih7 =>
      have J45 : ∀ (n45 : Nat) (x1 : Int32) (x2 : Int32) (x3 : Int32) (M : Mem) (H : Heap) (locs : List Loc) (ls : Array Slot), f_X12_firstOrders_45 (f_X12_firstOrders_7 n7) n45 x1 x2 x3 M = some M0 → Wd K A s (wM K a M) H locs → lv_has ls 4 [(0, .ref (a 0)), (1, .int x1), (2, .int x2), (3, .int x3)] → W p l e ({ frames := 2, cells := 0, slots := 0, locals := 47 } : Room) s m args below meth c H locs 0 0 (EndV K A (fun _ => wM K a M0) below args s ({ frames := 2, cells := 0, slots := 0, locals := 47 } : Room)) (F0 m 45 ls []) := by
        intro n45
        induction n45 with
        | zero => intro x1 x2 x3 M H locs ls h; exact absurd h (by simp [f_X12_firstOrders_45])
        | succ n45 ih45 =>
          intro x1 x2 x3 M H locs ls h hW hl
          rw [f_X12_firstOrders_45] at h
          refine lv_iload_n hx hb dX12_firstOrders_45 rfl (lv_at hl 3 rfl) ?_
          refine lv_iload_n hx hb dX12_firstOrders_46 rfl (lv_at hl 2 rfl) ?_
          refine lv_icmp_gt (tgt := 89) hx hb dX12_firstOrders_47 (by decide) (fun q6 => ?_) (fun q6 => ?_)
          · have h := ifp q6 h
            refine lv_iinc (v := (x1 + 1)) (lv' := [(1, .int (x1 + 1)), (0, .ref (a 0)), (2, .int x2), (3, .int x3)]) hx hb dX12_firstOrders_89 hl (k := 1) rfl rfl (by decide) rfl (fun ls hl => ?_)
            refine lv_goto (tgt := 7) hx hb dX12_firstOrders_92 (by decide) ?_
            exact ih7 (x1 + 1) _ _ _ _ h hW (lv_sub hl [1, 0] rfl)
          · have h := ifn q6 h
            refine lv_aload_n hx hb dX12_firstOrders_50 rfl (lv_at hl 0 rfl) ?_
            refine lv_iload_n hx hb dX12_firstOrders_51 rfl (lv_at hl 1 rfl) ?_
            refine lv_iconst (v := 2) hx hb dX12_firstOrders_52 (by decide) ?_
            refine lv_iload_n hx hb dX12_firstOrders_53 rfl (lv_at hl 3 rfl) ?_
            refine lv_imul hx hb dX12_firstOrders_54 ?_
            refine lv_aload_n hx hb dX12_firstOrders_55 rfl (lv_at hl 0 rfl) ?_
            refine lv_iload_n hx hb dX12_firstOrders_56 rfl (lv_at hl 1 rfl) ?_
            refine lv_iload_n hx hb dX12_firstOrders_57 rfl (lv_at hl 3 rfl) ?_
            obtain ⟨r7, hc9, h⟩ := bq_some h
            refine cV_i (ci := 12) (q0 := 0) (rest := [.int (2 * x3), .int x1, .ref (a 0)]) hF hW mw_X12_301 (c_X12_placeOf l K a hc9) ⟨Nat.le_of_ble_eq_true rfl, Nat.le_of_ble_eq_true rfl⟩ rfl rfl (pM_0 K a _) rfl hl.1 rfl (Nat.le_of_ble_eq_true rfl) dX12_firstOrders_58 ⟨Nat.le_of_ble_eq_true rfl, Nat.le_of_ble_eq_true rfl⟩ (fun _ H locs hW => ?_)
            refine lv_bipush (v := (-9)) hx hb dX12_firstOrders_61 (by decide) ?_
            obtain ⟨M11, hc12, h⟩ := bm_some h
            refine cV_v (ci := 12) (q0 := 0) (rest := []) hF hW mw_X12_304 (c_X12_setRow l K a hc12) ⟨Nat.le_of_ble_eq_true rfl, Nat.le_of_ble_eq_true rfl⟩ rfl rfl (pM_0 K a _) rfl hl.1 rfl (Nat.le_of_ble_eq_true rfl) dX12_firstOrders_63 ⟨Nat.le_of_ble_eq_true rfl, Nat.le_of_ble_eq_true rfl⟩ (fun _ H locs hW => ?_)
            refine lv_iload_n hx hb dX12_firstOrders_66 rfl (lv_at hl 3 rfl) ?_
            refine lv_iload_n hx hb dX12_firstOrders_67 rfl (lv_at hl 2 rfl) ?_
            refine lv_icmp_ge (tgt := 83) hx hb dX12_firstOrders_68 (by decide) (fun q13 => ?_) (fun q13 => ?_)
            · have h := ifp q13 h
              refine lv_iinc (v := (x3 + 1)) (lv' := [(3, .int (x3 + 1)), (0, .ref (a 0)), (1, .int x1), (2, .int x2)]) hx hb dX12_firstOrders_83 hl (k := 3) rfl rfl (by decide) rfl (fun ls hl => ?_)
              refine lv_goto (tgt := 45) hx hb dX12_firstOrders_86 (by decide) ?_
              exact ih45 x1 x2 (x3 + 1) _ _ _ _ h hW (lv_sub hl [1, 2, 3, 0] rfl)
            · have h := ifn q13 h
              refine lv_aload_n hx hb dX12_firstOrders_71 rfl (lv_at hl 0 rfl) ?_
              refine lv_iload_n hx hb dX12_firstOrders_72 rfl (lv_at hl 1 rfl) ?_
              refine lv_iconst (v := 2) hx hb dX12_firstOrders_73 (by decide) ?_
              refine lv_iload_n hx hb dX12_firstOrders_74 rfl (lv_at hl 3 rfl) ?_
              refine lv_imul hx hb dX12_firstOrders_75 ?_
              refine lv_iconst (v := 1) hx hb dX12_firstOrders_76 (by decide) ?_
              refine lv_iadd hx hb dX12_firstOrders_77 ?_
              refine lv_iconst (v := 0) hx hb dX12_firstOrders_78 (by decide) ?_
              refine lv_iload_n hx hb dX12_firstOrders_79 rfl (lv_at hl 3 rfl) ?_
              obtain ⟨M15, hc16, h⟩ := bm_some h
              refine cV_v (ci := 12) (q0 := 0) (rest := []) hF hW mw_X12_304 (c_X12_setRow l K a hc16) ⟨Nat.le_of_ble_eq_true rfl, Nat.le_of_ble_eq_true rfl⟩ rfl rfl (pM_0 K a _) rfl hl.1 rfl (Nat.le_of_ble_eq_true rfl) dX12_firstOrders_80 ⟨Nat.le_of_ble_eq_true rfl, Nat.le_of_ble_eq_true rfl⟩ (fun _ H locs hW => ?_)
              refine lv_iinc (v := (x3 + 1)) (lv' := [(3, .int (x3 + 1)), (0, .ref (a 0)), (1, .int x1), (2, .int x2)]) hx hb dX12_firstOrders_83 hl (k := 3) rfl rfl (by decide) rfl (fun ls hl => ?_)
              refine lv_goto (tgt := 45) hx hb dX12_firstOrders_86 (by decide) ?_
              exact ih45 x1 x2 (x3 + 1) _ _ _ _ h hW (lv_sub hl [1, 2, 3, 0] rfl)
      intro x1 M H locs ls h hW hl
      rw [f_X12_firstOrders_7] at h
      refine lv_iload_n hx hb dX12_firstOrders_7 rfl (lv_at hl 1 rfl) ?_
      refine lv_aload_n hx hb dX12_firstOrders_8 rfl (lv_at hl 0 rfl) ?_
      refine g_X12_170 hF hW dX12_firstOrders_9 ?_
      refine lv_icmp_ge (tgt := 95) hx hb dX12_firstOrders_12 (by decide) (fun q1 => ?_) (fun q1 => ?_)
      · have h := ifp q1 h
        obtain rfl := Option.some.inj h
        exact rt_v hF hr hk (fun _ => 0) hW dX12_firstOrders_95
      · have h := ifn q1 h
        refine lv_aload_n hx hb dX12_firstOrders_15 rfl (lv_at hl 0 rfl) ?_
        refine g_X12_26 hF hW dX12_firstOrders_16 ?_
        refine lv_iload_n hx hb dX12_firstOrders_19 rfl (lv_at hl 1 rfl) ?_
        obtain ⟨q2, h⟩ := ck_some h
        refine w_ild hF hW (pM_6 K a _) q2 dX12_firstOrders_20 ?_
        refine lv_iconst (v := 3) hx hb dX12_firstOrders_21 (by decide) ?_
        refine lv_icmp_ne (tgt := 89) hx hb dX12_firstOrders_22 (by decide) (fun q3 => ?_) (fun q3 => ?_)
        · have h := ifn q3 h
          refine lv_iinc (v := (x1 + 1)) (lv' := [(1, .int (x1 + 1)), (0, .ref (a 0))]) hx hb dX12_firstOrders_89 hl (k := 1) rfl rfl (by decide) rfl (fun ls hl => ?_)
          refine lv_goto (tgt := 7) hx hb dX12_firstOrders_92 (by decide) ?_
          exact ih7 (x1 + 1) _ _ _ _ h hW (lv_sub hl [1, 0] rfl)
        · have h := ifp q3 h
          refine lv_aload_n hx hb dX12_firstOrders_25 rfl (lv_at hl 0 rfl) ?_
          refine g_X12_32 hF hW dX12_firstOrders_26 ?_
          refine lv_iload_n hx hb dX12_firstOrders_29 rfl (lv_at hl 1 rfl) ?_
          obtain ⟨q4, h⟩ := ck_some h
          refine w_ild hF hW (pM_8 K a _) q4 dX12_firstOrders_30 ?_
          refine lv_istore_n (lv' := [(2, .int (M.1 8 x1.toNatClampNeg)), (0, .ref (a 0)), (1, .int x1)]) hx hb dX12_firstOrders_31 rfl hl (by decide) rfl (fun ls hl => ?_)
          refine lv_aload_n hx hb dX12_firstOrders_32 rfl (lv_at hl 1 rfl) ?_
          refine g_X12_99 hF hW dX12_firstOrders_33 ?_
          refine lv_iload_n hx hb dX12_firstOrders_36 rfl (lv_at hl 2 rfl) ?_
          refine lv_iconst (v := 2) hx hb dX12_firstOrders_37 (by decide) ?_
          refine lv_iload_n hx hb dX12_firstOrders_38 rfl (lv_at hl 0 rfl) ?_
          refine lv_imul hx hb dX12_firstOrders_39 ?_
          refine lv_iconst (v := 1) hx hb dX12_firstOrders_40 (by decide) ?_
          refine lv_iadd hx hb dX12_firstOrders_41 ?_
          obtain ⟨q5, h⟩ := ck_some h
          refine w_ist hF hW (pM_30 K a _) q5 (uM_30 K a _ _ _) dX12_firstOrders_42 (fun H locs hW => ?_)
          refine lv_iconst (v := 0) hx hb dX12_firstOrders_43 (by decide) ?_
          refine lv_istore_n (lv' := [(3, .int 0), (2, .int (M.1 8 x1.toNatClampNeg)), (0, .ref (a 0)), (1, .int x1)]) hx hb dX12_firstOrders_44 rfl hl (by decide) rfl (fun ls hl => ?_)
          exact J45 100000 x1 (M.1 8 x1.toNatClampNeg) 0 _ _ _ _ h hW (lv_sub hl [2, 3, 1, 0] rfl)
  unfold f_X12_firstOrders at h
  refine lv_aload_n hx hb dX12_firstOrders_0 rfl (lv_at hl 0 rfl) ?_
  refine lv_iconst (v := 0) hx hb dX12_firstOrders_1 (by decide) ?_
  refine s_X12_298 (x := 0) hF hW dX12_firstOrders_2 (fun H locs hW => ?_)
  refine lv_iconst (v := 0) hx hb dX12_firstOrders_5 (by decide) ?_
  refine lv_istore_n (lv' := [(1, .int 0), (0, .ref (a 0))]) hx hb dX12_firstOrders_6 rfl hl (by decide) rfl (fun ls hl => ?_)
  exact J7 100000 0 _ _ _ _ h hW (lv_sub hl [1, 0] rfl)
set_option maxRecDepth 100000 in
set_option maxHeartbeats 1000000 in
theorem c_X12_loopRow (l : Launch) (K : Kx) (a : Nat → Nat) {M : Mem} {x1 : Int32} {x2 : Int32} {r0 : Int32} (h : f_X12_loopRow M x1 x2 = some r0) : CMi l yX12_loopRow cX12_loopRow 4 (some .int) ({ frames := 1, cells := 0, slots := 0, locals := 21 } : Room) K [.ref (a 0), .int x1, .int x2] (wM K a M) (fun _ => wM K a M) r0 := by
  refine cs_i (by decide +kernel) (Nat.le_of_ble_eq_true rfl) ?_
  intro p e s m args below meth c A ls hF hr hk hnm hW hl
  have hx := hF.1
  have hb := hF.2.1
  have hl : lv_has ls 4 [(0, .ref (a 0)), (1, .int x1), (2, .int x2)] := hl
  obtain ⟨H, hH⟩ : ∃ z, z = s.heap := ⟨_, rfl⟩
  rw [← hH] at hW ⊢
  have J2 : ∀ (n2 : Nat) (x1 : Int32) (x2 : Int32) (x3 : Int32) (M : Mem) (H : Heap) (locs : List Loc) (ls : Array Slot), f_X12_loopRow_2 n2 x1 x2 x3 M = some r0 → Wd K A s (wM K a M) H locs → lv_has ls 4 [(0, .ref (a 0)), (1, .int x1), (2, .int x2), (3, .int x3)] → W p l e ({ frames := 1, cells := 0, slots := 0, locals := 21 } : Room) s m args below meth c H locs 0 0 (EndI K A (fun _ => wM K a M) r0 below args s ({ frames := 1, cells := 0, slots := 0, locals := 21 } : Room)) (F0 m 2 ls []) := by
    intro n2
    induction n2 with
    | zero => intro x1 x2 x3 M H locs ls h; exact absurd h (by simp [f_X12_loopRow_2])
    | succ n2 ih2 =>
      intro x1 x2 x3 M H locs ls h hW hl
      rw [f_X12_loopRow_2] at h
      refine lv_iload_n hx hb dX12_loopRow_2 rfl (lv_at hl 3 rfl) ?_
      refine lv_aload_n hx hb dX12_loopRow_3 rfl (lv_at hl 0 rfl) ?_
      refine g_X12_99 hF hW dX12_loopRow_4 ?_
      refine lv_iload_n hx hb dX12_loopRow_7 rfl (lv_at hl 1 rfl) ?_
      obtain ⟨q1, h⟩ := ck_some h
      refine w_ild hF hW (pM_30 K a _) q1 dX12_loopRow_8 ?_
      refine lv_icmp_ge (tgt := 37) hx hb dX12_loopRow_9 (by decide) (fun q2 => ?_) (fun q2 => ?_)
      · have h := ifp q2 h
        refine lv_bipush (v := (-9)) hx hb dX12_loopRow_37 (by decide) ?_
        obtain rfl := Option.some.inj h
        exact rt_i hF hr hk rfl (fun _ => 0) hW rfl dX12_loopRow_39
      · have h := ifn q2 h
        refine lv_aload_n hx hb dX12_loopRow_12 rfl (lv_at hl 0 rfl) ?_
        refine g_X12_102 hF hW dX12_loopRow_13 ?_
        refine lv_iload_n hx hb dX12_loopRow_16 rfl (lv_at hl 1 rfl) ?_
        refine lv_iload_n hx hb dX12_loopRow_17 rfl (lv_at hl 3 rfl) ?_
        obtain ⟨r3, hc5, h⟩ := bq_some h
        refine cS_i (rest := [.ref (a 31)]) hF hW mw_X12_295 (c_X12_rowAt l K hc5) ⟨Nat.le_of_ble_eq_true rfl, Nat.le_of_ble_eq_true rfl⟩ rfl hl.1 rfl (Nat.le_of_ble_eq_true rfl) dX12_loopRow_18 ⟨Nat.le_of_ble_eq_true rfl, Nat.le_of_ble_eq_true rfl⟩ (fun _ H locs hW => ?_)
        refine lv_bipush (v := 6) hx hb dX12_loopRow_21 (by decide) ?_
        refine lv_iadd hx hb dX12_loopRow_23 ?_
        obtain ⟨q6, h⟩ := ck_some h
        refine w_ild hF hW (pM_31 K a _) q6 dX12_loopRow_24 ?_
        refine lv_iload_n hx hb dX12_loopRow_25 rfl (lv_at hl 2 rfl) ?_
        refine lv_icmp_ne (tgt := 31) hx hb dX12_loopRow_26 (by decide) (fun q7 => ?_) (fun q7 => ?_)
        · have h := ifn q7 h
          refine lv_iinc (v := (x3 + 1)) (lv' := [(3, .int (x3 + 1)), (0, .ref (a 0)), (1, .int x1), (2, .int x2)]) hx hb dX12_loopRow_31 hl (k := 3) rfl rfl (by decide) rfl (fun ls hl => ?_)
          refine lv_goto (tgt := 2) hx hb dX12_loopRow_34 (by decide) ?_
          exact ih2 x1 x2 (x3 + 1) _ _ _ _ h hW (lv_sub hl [1, 2, 3, 0] rfl)
        · have h := ifp q7 h
          refine lv_iload_n hx hb dX12_loopRow_29 rfl (lv_at hl 3 rfl) ?_
          obtain rfl := Option.some.inj h
          exact rt_i hF hr hk rfl (fun _ => 0) hW rfl dX12_loopRow_30
  unfold f_X12_loopRow at h
  refine lv_iconst (v := 0) hx hb dX12_loopRow_0 (by decide) ?_
  refine lv_istore_n (lv' := [(3, .int 0), (0, .ref (a 0)), (1, .int x1), (2, .int x2)]) hx hb dX12_loopRow_1 rfl hl (by decide) rfl (fun ls hl => ?_)
  exact J2 100000 x1 x2 0 _ _ _ _ h hW (lv_sub hl [1, 2, 3, 0] rfl)
set_option maxRecDepth 100000 in
set_option maxHeartbeats 1000000 in
theorem c_X12_keepTried (l : Launch) (K : Kx) (a : Nat → Nat) {M M0 : Mem}   (h : f_X12_keepTried M = some M0) : CMv l yX12_keepTried cX12_keepTried 2 ({ frames := 0, cells := 0, slots := 0, locals := 0 } : Room) K [.ref (a 0)] (wM K a M) (fun _ => wM K a M0) := by
  refine cs_v (by decide +kernel) (Nat.le_of_ble_eq_true rfl) ?_
  intro p e s m args below meth c A ls hF hr hk hnm hW hl
  have hx := hF.1
  have hb := hF.2.1
  have hl : lv_has ls 2 [(0, .ref (a 0))] := hl
  obtain ⟨H, hH⟩ : ∃ z, z = s.heap := ⟨_, rfl⟩
  rw [← hH] at hW ⊢
  have J2 : ∀ (n2 : Nat) (x1 : Int32) (M : Mem) (H : Heap) (locs : List Loc) (ls : Array Slot), f_X12_keepTried_2 n2 x1 M = some M0 → Wd K A s (wM K a M) H locs → lv_has ls 2 [(0, .ref (a 0)), (1, .int x1)] → W p l e ({ frames := 0, cells := 0, slots := 0, locals := 0 } : Room) s m args below meth c H locs 0 0 (EndV K A (fun _ => wM K a M0) below args s ({ frames := 0, cells := 0, slots := 0, locals := 0 } : Room)) (F0 m 2 ls []) := by
    intro n2
    induction n2 with
    | zero => intro x1 M H locs ls h; exact absurd h (by simp [f_X12_keepTried_2])
    | succ n2 ih2 =>
      have J28 : ∀ (n28 : Nat) (x1 : Int32) (M : Mem) (H : Heap) (locs : List Loc) (ls : Array Slot), f_X12_keepTried_28 n28 x1 M = some M0 → Wd K A s (wM K a M) H locs → lv_has ls 2 [(0, .ref (a 0)), (1, .int x1)] → W p l e ({ frames := 0, cells := 0, slots := 0, locals := 0 } : Room) s m args below meth c H locs 0 0 (EndV K A (fun _ => wM K a M0) below args s ({ frames := 0, cells := 0, slots := 0, locals := 0 } : Room)) (F0 m 28 ls []) := by
        intro n28
        induction n28 with
        | zero => intro x1 M H locs ls h; exact absurd h (by simp [f_X12_keepTried_28])
        | succ n28 ih28 =>
          intro x1 M H locs ls h hW hl
          rw [f_X12_keepTried_28] at h
          refine lv_iload_n hx hb dX12_keepTried_28 rfl (lv_at hl 1 rfl) ?_
          refine lv_sipush (v := 4480) hx hb dX12_keepTried_29 (by decide) ?_
          refine lv_icmp_ge (tgt := 53) hx hb dX12_keepTried_32 (by decide) (fun q4 => ?_) (fun q4 => ?_)
          · have h := ifp q4 h
            obtain rfl := Option.some.inj h
            exact rt_v hF hr hk (fun _ => 0) hW dX12_keepTried_53
          · have h := ifn q4 h
            refine lv_aload_n hx hb dX12_keepTried_35 rfl (lv_at hl 0 rfl) ?_
            refine g_X12_115 hF hW dX12_keepTried_36 ?_
            refine lv_iload_n hx hb dX12_keepTried_39 rfl (lv_at hl 1 rfl) ?_
            refine lv_aload_n hx hb dX12_keepTried_40 rfl (lv_at hl 0 rfl) ?_
            refine g_X12_102 hF hW dX12_keepTried_41 ?_
            refine lv_iload_n hx hb dX12_keepTried_44 rfl (lv_at hl 1 rfl) ?_
            obtain ⟨q5, h⟩ := ck_some h
            refine w_ild hF hW (pM_31 K a _) q5 dX12_keepTried_45 ?_
            obtain ⟨q6, h⟩ := ck_some h
            refine w_ist hF hW (pM_35 K a _) q6 (uM_35 K a _ _ _) dX12_keepTried_46 (fun H locs hW => ?_)
            refine lv_iinc (v := (x1 + 1)) (lv' := [(1, .int (x1 + 1)), (0, .ref (a 0))]) hx hb dX12_keepTried_47 hl (k := 1) rfl rfl (by decide) rfl (fun ls hl => ?_)
            refine lv_goto (tgt := 28) hx hb dX12_keepTried_50 (by decide) ?_
            exact ih28 (x1 + 1) _ _ _ _ h hW (lv_sub hl [1, 0] rfl)
      intro x1 M H locs ls h hW hl
      rw [f_X12_keepTried_2] at h
      refine lv_iload_n hx hb dX12_keepTried_2 rfl (lv_at hl 1 rfl) ?_
      refine lv_bipush (v := 40) hx hb dX12_keepTried_3 (by decide) ?_
      refine lv_icmp_ge (tgt := 26) hx hb dX12_keepTried_5 (by decide) (fun q1 => ?_) (fun q1 => ?_)
      · have h := ifp q1 h
        refine lv_iconst (v := 0) hx hb dX12_keepTried_26 (by decide) ?_
        refine lv_istore_n (lv' := [(1, .int 0), (0, .ref (a 0))]) hx hb dX12_keepTried_27 rfl hl (by decide) rfl (fun ls hl => ?_)
        exact J28 100000 0 _ _ _ _ h hW (lv_sub hl [1, 0] rfl)
      · have h := ifn q1 h
        refine lv_aload_n hx hb dX12_keepTried_8 rfl (lv_at hl 0 rfl) ?_
        refine g_X12_112 hF hW dX12_keepTried_9 ?_
        refine lv_iload_n hx hb dX12_keepTried_12 rfl (lv_at hl 1 rfl) ?_
        refine lv_aload_n hx hb dX12_keepTried_13 rfl (lv_at hl 0 rfl) ?_
        refine g_X12_99 hF hW dX12_keepTried_14 ?_
        refine lv_iload_n hx hb dX12_keepTried_17 rfl (lv_at hl 1 rfl) ?_
        obtain ⟨q2, h⟩ := ck_some h
        refine w_ild hF hW (pM_30 K a _) q2 dX12_keepTried_18 ?_
        obtain ⟨q3, h⟩ := ck_some h
        refine w_ist hF hW (pM_34 K a _) q3 (uM_34 K a _ _ _) dX12_keepTried_19 (fun H locs hW => ?_)
        refine lv_iinc (v := (x1 + 1)) (lv' := [(1, .int (x1 + 1)), (0, .ref (a 0))]) hx hb dX12_keepTried_20 hl (k := 1) rfl rfl (by decide) rfl (fun ls hl => ?_)
        refine lv_goto (tgt := 2) hx hb dX12_keepTried_23 (by decide) ?_
        exact ih2 (x1 + 1) _ _ _ _ h hW (lv_sub hl [1, 0] rfl)
  unfold f_X12_keepTried at h
  refine lv_iconst (v := 0) hx hb dX12_keepTried_0 (by decide) ?_
  refine lv_istore_n (lv' := [(1, .int 0), (0, .ref (a 0))]) hx hb dX12_keepTried_1 rfl hl (by decide) rfl (fun ls hl => ?_)
  exact J2 100000 0 _ _ _ _ h hW (lv_sub hl [1, 0] rfl)
set_option maxRecDepth 100000 in
set_option maxHeartbeats 1000000 in
theorem c_X12_giveTried (l : Launch) (K : Kx) (a : Nat → Nat) {M M0 : Mem}   (h : f_X12_giveTried M = some M0) : CMv l yX12_giveTried cX12_giveTried 2 ({ frames := 0, cells := 0, slots := 0, locals := 0 } : Room) K [.ref (a 0)] (wM K a M) (fun _ => wM K a M0) := by
  refine cs_v (by decide +kernel) (Nat.le_of_ble_eq_true rfl) ?_
  intro p e s m args below meth c A ls hF hr hk hnm hW hl
  have hx := hF.1
  have hb := hF.2.1
  have hl : lv_has ls 2 [(0, .ref (a 0))] := hl
  obtain ⟨H, hH⟩ : ∃ z, z = s.heap := ⟨_, rfl⟩
  rw [← hH] at hW ⊢
  have J2 : ∀ (n2 : Nat) (x1 : Int32) (M : Mem) (H : Heap) (locs : List Loc) (ls : Array Slot), f_X12_giveTried_2 n2 x1 M = some M0 → Wd K A s (wM K a M) H locs → lv_has ls 2 [(0, .ref (a 0)), (1, .int x1)] → W p l e ({ frames := 0, cells := 0, slots := 0, locals := 0 } : Room) s m args below meth c H locs 0 0 (EndV K A (fun _ => wM K a M0) below args s ({ frames := 0, cells := 0, slots := 0, locals := 0 } : Room)) (F0 m 2 ls []) := by
    intro n2
    induction n2 with
    | zero => intro x1 M H locs ls h; exact absurd h (by simp [f_X12_giveTried_2])
    | succ n2 ih2 =>
      have J28 : ∀ (n28 : Nat) (x1 : Int32) (M : Mem) (H : Heap) (locs : List Loc) (ls : Array Slot), f_X12_giveTried_28 n28 x1 M = some M0 → Wd K A s (wM K a M) H locs → lv_has ls 2 [(0, .ref (a 0)), (1, .int x1)] → W p l e ({ frames := 0, cells := 0, slots := 0, locals := 0 } : Room) s m args below meth c H locs 0 0 (EndV K A (fun _ => wM K a M0) below args s ({ frames := 0, cells := 0, slots := 0, locals := 0 } : Room)) (F0 m 28 ls []) := by
        intro n28
        induction n28 with
        | zero => intro x1 M H locs ls h; exact absurd h (by simp [f_X12_giveTried_28])
        | succ n28 ih28 =>
          intro x1 M H locs ls h hW hl
          rw [f_X12_giveTried_28] at h
          refine lv_iload_n hx hb dX12_giveTried_28 rfl (lv_at hl 1 rfl) ?_
          refine lv_sipush (v := 4480) hx hb dX12_giveTried_29 (by decide) ?_
          refine lv_icmp_ge (tgt := 53) hx hb dX12_giveTried_32 (by decide) (fun q4 => ?_) (fun q4 => ?_)
          · have h := ifp q4 h
            obtain rfl := Option.some.inj h
            exact rt_v hF hr hk (fun _ => 0) hW dX12_giveTried_53
          · have h := ifn q4 h
            refine lv_aload_n hx hb dX12_giveTried_35 rfl (lv_at hl 0 rfl) ?_
            refine g_X12_102 hF hW dX12_giveTried_36 ?_
            refine lv_iload_n hx hb dX12_giveTried_39 rfl (lv_at hl 1 rfl) ?_
            refine lv_aload_n hx hb dX12_giveTried_40 rfl (lv_at hl 0 rfl) ?_
            refine g_X12_115 hF hW dX12_giveTried_41 ?_
            refine lv_iload_n hx hb dX12_giveTried_44 rfl (lv_at hl 1 rfl) ?_
            obtain ⟨q5, h⟩ := ck_some h
            refine w_ild hF hW (pM_35 K a _) q5 dX12_giveTried_45 ?_
            obtain ⟨q6, h⟩ := ck_some h
            refine w_ist hF hW (pM_31 K a _) q6 (uM_31 K a _ _ _) dX12_giveTried_46 (fun H locs hW => ?_)
            refine lv_iinc (v := (x1 + 1)) (lv' := [(1, .int (x1 + 1)), (0, .ref (a 0))]) hx hb dX12_giveTried_47 hl (k := 1) rfl rfl (by decide) rfl (fun ls hl => ?_)
            refine lv_goto (tgt := 28) hx hb dX12_giveTried_50 (by decide) ?_
            exact ih28 (x1 + 1) _ _ _ _ h hW (lv_sub hl [1, 0] rfl)
      intro x1 M H locs ls h hW hl
      rw [f_X12_giveTried_2] at h
      refine lv_iload_n hx hb dX12_giveTried_2 rfl (lv_at hl 1 rfl) ?_
      refine lv_bipush (v := 40) hx hb dX12_giveTried_3 (by decide) ?_
      refine lv_icmp_ge (tgt := 26) hx hb dX12_giveTried_5 (by decide) (fun q1 => ?_) (fun q1 => ?_)
      · have h := ifp q1 h
        refine lv_iconst (v := 0) hx hb dX12_giveTried_26 (by decide) ?_
        refine lv_istore_n (lv' := [(1, .int 0), (0, .ref (a 0))]) hx hb dX12_giveTried_27 rfl hl (by decide) rfl (fun ls hl => ?_)
        exact J28 100000 0 _ _ _ _ h hW (lv_sub hl [1, 0] rfl)
      · have h := ifn q1 h
        refine lv_aload_n hx hb dX12_giveTried_8 rfl (lv_at hl 0 rfl) ?_
        refine g_X12_99 hF hW dX12_giveTried_9 ?_
        refine lv_iload_n hx hb dX12_giveTried_12 rfl (lv_at hl 1 rfl) ?_
        refine lv_aload_n hx hb dX12_giveTried_13 rfl (lv_at hl 0 rfl) ?_
        refine g_X12_112 hF hW dX12_giveTried_14 ?_
        refine lv_iload_n hx hb dX12_giveTried_17 rfl (lv_at hl 1 rfl) ?_
        obtain ⟨q2, h⟩ := ck_some h
        refine w_ild hF hW (pM_34 K a _) q2 dX12_giveTried_18 ?_
        obtain ⟨q3, h⟩ := ck_some h
        refine w_ist hF hW (pM_30 K a _) q3 (uM_30 K a _ _ _) dX12_giveTried_19 (fun H locs hW => ?_)
        refine lv_iinc (v := (x1 + 1)) (lv' := [(1, .int (x1 + 1)), (0, .ref (a 0))]) hx hb dX12_giveTried_20 hl (k := 1) rfl rfl (by decide) rfl (fun ls hl => ?_)
        refine lv_goto (tgt := 2) hx hb dX12_giveTried_23 (by decide) ?_
        exact ih2 (x1 + 1) _ _ _ _ h hW (lv_sub hl [1, 0] rfl)
  unfold f_X12_giveTried at h
  refine lv_iconst (v := 0) hx hb dX12_giveTried_0 (by decide) ?_
  refine lv_istore_n (lv' := [(1, .int 0), (0, .ref (a 0))]) hx hb dX12_giveTried_1 rfl hl (by decide) rfl (fun ls hl => ?_)
  exact J2 100000 0 _ _ _ _ h hW (lv_sub hl [1, 0] rfl)
set_option maxRecDepth 100000 in
set_option maxHeartbeats 1000000 in
theorem c_X12_turned (l : Launch) (K : Kx) (a : Nat → Nat) {M M0 : Mem}  {r0 : Int32} (h : f_X12_turned M = some (r0, M0)) : CMi l yX12_turned cX12_turned 2 (some .int) ({ frames := 0, cells := 0, slots := 0, locals := 0 } : Room) K [.ref (a 0)] (wM K a M) (fun _ => wM K a M0) r0 := by
  refine cs_i (by decide +kernel) (Nat.le_of_ble_eq_true rfl) ?_
  intro p e s m args below meth c A ls hF hr hk hnm hW hl
  have hx := hF.1
  have hb := hF.2.1
  have hl : lv_has ls 2 [(0, .ref (a 0))] := hl
  obtain ⟨H, hH⟩ : ∃ z, z = s.heap := ⟨_, rfl⟩
  rw [← hH] at hW ⊢
  have J82 : ∀ (n82 : Nat) (x1 : Int32) (M : Mem) (H : Heap) (locs : List Loc) (ls : Array Slot), f_X12_turned_82 n82 x1 M = some (r0, M0) → Wd K A s (wM K a M) H locs → lv_has ls 2 [(0, .ref (a 0)), (1, .int x1)] → W p l e ({ frames := 0, cells := 0, slots := 0, locals := 0 } : Room) s m args below meth c H locs 0 0 (EndI K A (fun _ => wM K a M0) r0 below args s ({ frames := 0, cells := 0, slots := 0, locals := 0 } : Room)) (F0 m 82 ls []) := by
    intro n82
    induction n82 with
    | zero => intro x1 M H locs ls h; exact absurd h (by simp [f_X12_turned_82])
    | succ n82 ih82 =>
      have J116 : ∀ (n116 : Nat) (x1 : Int32) (M : Mem) (H : Heap) (locs : List Loc) (ls : Array Slot), f_X12_turned_116 n116 x1 M = some (r0, M0) → Wd K A s (wM K a M) H locs → lv_has ls 2 [(0, .ref (a 0)), (1, .int x1)] → W p l e ({ frames := 0, cells := 0, slots := 0, locals := 0 } : Room) s m args below meth c H locs 0 0 (EndI K A (fun _ => wM K a M0) r0 below args s ({ frames := 0, cells := 0, slots := 0, locals := 0 } : Room)) (F0 m 116 ls []) := by
        intro n116
        induction n116 with
        | zero => intro x1 M H locs ls h; exact absurd h (by simp [f_X12_turned_116])
        | succ n116 ih116 =>
          intro x1 M H locs ls h hW hl
          rw [f_X12_turned_116] at h
          refine lv_iload_n hx hb dX12_turned_116 rfl (lv_at hl 1 rfl) ?_
          refine lv_sipush (v := 4480) hx hb dX12_turned_117 (by decide) ?_
          refine lv_icmp_ge (tgt := 150) hx hb dX12_turned_120 (by decide) (fun q11 => ?_) (fun q11 => ?_)
          · have h := ifp q11 h
            refine lv_aload_n hx hb dX12_turned_150 rfl (lv_at hl 0 rfl) ?_
            refine lv_dup hx hb dX12_turned_151 rfl ?_
            refine g_X12_298 hF hW dX12_turned_152 ?_
            refine lv_iconst (v := 1) hx hb dX12_turned_155 (by decide) ?_
            refine lv_iadd hx hb dX12_turned_156 ?_
            refine s_X12_298 (x := ((M.1 109 0) + 1)) hF hW dX12_turned_157 (fun H locs hW => ?_)
            refine lv_iconst (v := 1) hx hb dX12_turned_160 (by decide) ?_
            obtain ⟨rfl, rfl⟩ := Prod.mk.inj (Option.some.inj h)
            exact rt_i hF hr hk rfl (fun _ => 0) hW rfl dX12_turned_161
          · have h := ifn q11 h
            refine lv_aload_n hx hb dX12_turned_123 rfl (lv_at hl 0 rfl) ?_
            refine g_X12_109 hF hW dX12_turned_124 ?_
            refine lv_sipush (v := 4480) hx hb dX12_turned_127 (by decide) ?_
            refine lv_aload_n hx hb dX12_turned_130 rfl (lv_at hl 0 rfl) ?_
            refine g_X12_298 hF hW dX12_turned_131 ?_
            refine lv_imul hx hb dX12_turned_134 ?_
            refine lv_iload_n hx hb dX12_turned_135 rfl (lv_at hl 1 rfl) ?_
            refine lv_iadd hx hb dX12_turned_136 ?_
            refine lv_aload_n hx hb dX12_turned_137 rfl (lv_at hl 0 rfl) ?_
            refine g_X12_115 hF hW dX12_turned_138 ?_
            refine lv_iload_n hx hb dX12_turned_141 rfl (lv_at hl 1 rfl) ?_
            obtain ⟨q12, h⟩ := ck_some h
            refine w_ild hF hW (pM_35 K a _) q12 dX12_turned_142 ?_
            obtain ⟨q13, h⟩ := ck_some h
            refine w_ist hF hW (pM_33 K a _) q13 (uM_33 K a _ _ _) dX12_turned_143 (fun H locs hW => ?_)
            refine lv_iinc (v := (x1 + 1)) (lv' := [(1, .int (x1 + 1)), (0, .ref (a 0))]) hx hb dX12_turned_144 hl (k := 1) rfl rfl (by decide) rfl (fun ls hl => ?_)
            refine lv_goto (tgt := 116) hx hb dX12_turned_147 (by decide) ?_
            exact ih116 (x1 + 1) _ _ _ _ h hW (lv_sub hl [1, 0] rfl)
      intro x1 M H locs ls h hW hl
      rw [f_X12_turned_82] at h
      refine lv_iload_n hx hb dX12_turned_82 rfl (lv_at hl 1 rfl) ?_
      refine lv_bipush (v := 40) hx hb dX12_turned_83 (by decide) ?_
      refine lv_icmp_ge (tgt := 114) hx hb dX12_turned_85 (by decide) (fun q5 => ?_) (fun q5 => ?_)
      · have h := ifp q5 h
        refine lv_iconst (v := 0) hx hb dX12_turned_114 (by decide) ?_
        refine lv_istore_n (lv' := [(1, .int 0), (0, .ref (a 0))]) hx hb dX12_turned_115 rfl hl (by decide) rfl (fun ls hl => ?_)
        exact J116 100000 0 _ _ _ _ h hW (lv_sub hl [1, 0] rfl)
      · have h := ifn q5 h
        refine lv_aload_n hx hb dX12_turned_88 rfl (lv_at hl 0 rfl) ?_
        refine g_X12_105 hF hW dX12_turned_89 ?_
        refine lv_bipush (v := 40) hx hb dX12_turned_92 (by decide) ?_
        refine lv_aload_n hx hb dX12_turned_94 rfl (lv_at hl 0 rfl) ?_
        refine g_X12_298 hF hW dX12_turned_95 ?_
        refine lv_imul hx hb dX12_turned_98 ?_
        refine lv_iload_n hx hb dX12_turned_99 rfl (lv_at hl 1 rfl) ?_
        refine lv_iadd hx hb dX12_turned_100 ?_
        refine lv_aload_n hx hb dX12_turned_101 rfl (lv_at hl 0 rfl) ?_
        refine g_X12_112 hF hW dX12_turned_102 ?_
        refine lv_iload_n hx hb dX12_turned_105 rfl (lv_at hl 1 rfl) ?_
        obtain ⟨q6, h⟩ := ck_some h
        refine w_ild hF hW (pM_34 K a _) q6 dX12_turned_106 ?_
        obtain ⟨q7, h⟩ := ck_some h
        refine w_ist hF hW (pM_32 K a _) q7 (uM_32 K a _ _ _) dX12_turned_107 (fun H locs hW => ?_)
        refine lv_iinc (v := (x1 + 1)) (lv' := [(1, .int (x1 + 1)), (0, .ref (a 0))]) hx hb dX12_turned_108 hl (k := 1) rfl rfl (by decide) rfl (fun ls hl => ?_)
        refine lv_goto (tgt := 82) hx hb dX12_turned_111 (by decide) ?_
        exact ih82 (x1 + 1) _ _ _ _ h hW (lv_sub hl [1, 0] rfl)
  have J11 : ∀ (n11 : Nat) (x1 : Int32) (M : Mem) (H : Heap) (locs : List Loc) (ls : Array Slot), f_X12_turned_11 (f_X12_turned_82 100000) n11 x1 M = some (r0, M0) → Wd K A s (wM K a M) H locs → lv_has ls 2 [(0, .ref (a 0)), (1, .int x1)] → W p l e ({ frames := 0, cells := 0, slots := 0, locals := 0 } : Room) s m args below meth c H locs 0 0 (EndI K A (fun _ => wM K a M0) r0 below args s ({ frames := 0, cells := 0, slots := 0, locals := 0 } : Room)) (F0 m 11 ls []) := by
    intro n11
    induction n11 with
    | zero => intro x1 M H locs ls h; exact absurd h (by simp [f_X12_turned_11])
    | succ n11 ih11 =>
      have J41 : ∀ (n41 : Nat) (x1 : Int32) (M : Mem) (H : Heap) (locs : List Loc) (ls : Array Slot), f_X12_turned_41 (f_X12_turned_82 100000) n41 x1 M = some (r0, M0) → Wd K A s (wM K a M) H locs → lv_has ls 2 [(0, .ref (a 0)), (1, .int x1)] → W p l e ({ frames := 0, cells := 0, slots := 0, locals := 0 } : Room) s m args below meth c H locs 0 0 (EndI K A (fun _ => wM K a M0) r0 below args s ({ frames := 0, cells := 0, slots := 0, locals := 0 } : Room)) (F0 m 41 ls []) := by
        intro n41
        induction n41 with
        | zero => intro x1 M H locs ls h; exact absurd h (by simp [f_X12_turned_41])
        | succ n41 ih41 =>
          intro x1 M H locs ls h hW hl
          rw [f_X12_turned_41] at h
          refine lv_iload_n hx hb dX12_turned_41 rfl (lv_at hl 1 rfl) ?_
          refine lv_ldcw hx hb hF.2.2.2.1 (hF.2.2.1 _ ki_X12_308) dX12_turned_42 ?_
          refine lv_icmp_ge (tgt := 70) hx hb dX12_turned_45 (by decide) (fun q8 => ?_) (fun q8 => ?_)
          · have h := ifp q8 h
            refine lv_aload_n hx hb dX12_turned_70 rfl (lv_at hl 0 rfl) ?_
            refine lv_dup hx hb dX12_turned_71 rfl ?_
            refine g_X12_298 hF hW dX12_turned_72 ?_
            refine lv_iconst (v := 1) hx hb dX12_turned_75 (by decide) ?_
            refine lv_isub hx hb dX12_turned_76 ?_
            refine s_X12_298 (x := ((M.1 109 0) - 1)) hF hW dX12_turned_77 (fun H locs hW => ?_)
            refine lv_iconst (v := 0) hx hb dX12_turned_80 (by decide) ?_
            refine lv_istore_n (lv' := [(1, .int 0), (0, .ref (a 0))]) hx hb dX12_turned_81 rfl hl (by decide) rfl (fun ls hl => ?_)
            exact J82 100000 0 _ _ _ _ h hW (lv_sub hl [1, 0] rfl)
          · have h := ifn q8 h
            refine lv_aload_n hx hb dX12_turned_48 rfl (lv_at hl 0 rfl) ?_
            refine g_X12_109 hF hW dX12_turned_49 ?_
            refine lv_iload_n hx hb dX12_turned_52 rfl (lv_at hl 1 rfl) ?_
            refine lv_aload_n hx hb dX12_turned_53 rfl (lv_at hl 0 rfl) ?_
            refine g_X12_109 hF hW dX12_turned_54 ?_
            refine lv_iload_n hx hb dX12_turned_57 rfl (lv_at hl 1 rfl) ?_
            refine lv_sipush (v := 4480) hx hb dX12_turned_58 (by decide) ?_
            refine lv_iadd hx hb dX12_turned_61 ?_
            obtain ⟨q9, h⟩ := ck_some h
            refine w_ild hF hW (pM_33 K a _) q9 dX12_turned_62 ?_
            obtain ⟨q10, h⟩ := ck_some h
            refine w_ist hF hW (pM_33 K a _) q10 (uM_33 K a _ _ _) dX12_turned_63 (fun H locs hW => ?_)
            refine lv_iinc (v := (x1 + 1)) (lv' := [(1, .int (x1 + 1)), (0, .ref (a 0))]) hx hb dX12_turned_64 hl (k := 1) rfl rfl (by decide) rfl (fun ls hl => ?_)
            refine lv_goto (tgt := 41) hx hb dX12_turned_67 (by decide) ?_
            exact ih41 (x1 + 1) _ _ _ _ h hW (lv_sub hl [1, 0] rfl)
      intro x1 M H locs ls h hW hl
      rw [f_X12_turned_11] at h
      refine lv_iload_n hx hb dX12_turned_11 rfl (lv_at hl 1 rfl) ?_
      refine lv_sipush (v := 760) hx hb dX12_turned_12 (by decide) ?_
      refine lv_icmp_ge (tgt := 39) hx hb dX12_turned_15 (by decide) (fun q2 => ?_) (fun q2 => ?_)
      · have h := ifp q2 h
        refine lv_iconst (v := 0) hx hb dX12_turned_39 (by decide) ?_
        refine lv_istore_n (lv' := [(1, .int 0), (0, .ref (a 0))]) hx hb dX12_turned_40 rfl hl (by decide) rfl (fun ls hl => ?_)
        exact J41 100000 0 _ _ _ _ h hW (lv_sub hl [1, 0] rfl)
      · have h := ifn q2 h
        refine lv_aload_n hx hb dX12_turned_18 rfl (lv_at hl 0 rfl) ?_
        refine g_X12_105 hF hW dX12_turned_19 ?_
        refine lv_iload_n hx hb dX12_turned_22 rfl (lv_at hl 1 rfl) ?_
        refine lv_aload_n hx hb dX12_turned_23 rfl (lv_at hl 0 rfl) ?_
        refine g_X12_105 hF hW dX12_turned_24 ?_
        refine lv_iload_n hx hb dX12_turned_27 rfl (lv_at hl 1 rfl) ?_
        refine lv_bipush (v := 40) hx hb dX12_turned_28 (by decide) ?_
        refine lv_iadd hx hb dX12_turned_30 ?_
        obtain ⟨q3, h⟩ := ck_some h
        refine w_ild hF hW (pM_32 K a _) q3 dX12_turned_31 ?_
        obtain ⟨q4, h⟩ := ck_some h
        refine w_ist hF hW (pM_32 K a _) q4 (uM_32 K a _ _ _) dX12_turned_32 (fun H locs hW => ?_)
        refine lv_iinc (v := (x1 + 1)) (lv' := [(1, .int (x1 + 1)), (0, .ref (a 0))]) hx hb dX12_turned_33 hl (k := 1) rfl rfl (by decide) rfl (fun ls hl => ?_)
        refine lv_goto (tgt := 11) hx hb dX12_turned_36 (by decide) ?_
        exact ih11 (x1 + 1) _ _ _ _ h hW (lv_sub hl [1, 0] rfl)
  unfold f_X12_turned at h
  refine lv_aload_n hx hb dX12_turned_0 rfl (lv_at hl 0 rfl) ?_
  refine g_X12_298 hF hW dX12_turned_1 ?_
  refine lv_bipush (v := 20) hx hb dX12_turned_4 (by decide) ?_
  refine lv_icmp_ne (tgt := 80) hx hb dX12_turned_6 (by decide) (fun q1 => ?_) (fun q1 => ?_)
  · have h := ifn q1 h
    refine lv_iconst (v := 0) hx hb dX12_turned_80 (by decide) ?_
    refine lv_istore_n (lv' := [(1, .int 0), (0, .ref (a 0))]) hx hb dX12_turned_81 rfl hl (by decide) rfl (fun ls hl => ?_)
    exact J82 100000 0 _ _ _ _ h hW (lv_sub hl [1, 0] rfl)
  · have h := ifp q1 h
    refine lv_iconst (v := 0) hx hb dX12_turned_9 (by decide) ?_
    refine lv_istore_n (lv' := [(1, .int 0), (0, .ref (a 0))]) hx hb dX12_turned_10 rfl hl (by decide) rfl (fun ls hl => ?_)
    exact J11 100000 0 _ _ _ _ h hW (lv_sub hl [1, 0] rfl)
set_option maxRecDepth 100000 in
set_option maxHeartbeats 1000000 in
theorem c_X12_fits (l : Launch) (K : Kx) (a : Nat → Nat) {M M0 : Mem} {x1 : Int32} {r0 : Bool} (h : f_X12_fits M x1 = some (r0, M0)) : CMi l yX12_fits cX12_fits 5 (some .boolean) ({ frames := 1, cells := 0, slots := 0, locals := 25 } : Room) K [.ref (a 0), .int x1, .ref (a 36)] (wM K a M) (fun _ => wM K a M0) (bI r0) := by
  refine cs_i (by decide +kernel) (Nat.le_of_ble_eq_true rfl) ?_
  intro p e s m args below meth c A ls hF hr hk hnm hW hl
  have hx := hF.1
  have hb := hF.2.1
  have hl : lv_has ls 5 [(0, .ref (a 0)), (1, .int x1), (2, .ref (a 36))] := hl
  obtain ⟨H, hH⟩ : ∃ z, z = s.heap := ⟨_, rfl⟩
  rw [← hH] at hW ⊢
  have J5 : ∀ (n5 : Nat) (x1 : Int32) (x3 : Bool) (x4 : Int32) (M : Mem) (H : Heap) (locs : List Loc) (ls : Array Slot), f_X12_fits_5 n5 x1 x3 x4 M = some (r0, M0) → Wd K A s (wM K a M) H locs → lv_has ls 5 [(0, .ref (a 0)), (1, .int x1), (2, .ref (a 36)), (3, .int (bI x3)), (4, .int x4)] → W p l e ({ frames := 1, cells := 0, slots := 0, locals := 25 } : Room) s m args below meth c H locs 0 0 (EndI K A (fun _ => wM K a M0) (bI r0) below args s ({ frames := 1, cells := 0, slots := 0, locals := 25 } : Room)) (F0 m 5 ls []) := by
    intro n5
    induction n5 with
    | zero => intro x1 x3 x4 M H locs ls h; exact absurd h (by simp [f_X12_fits_5])
    | succ n5 ih5 =>
      have J46 : ∀ (n46 : Nat) (x1 : Int32) (x3 : Bool) (x4 : Int32) (M : Mem) (H : Heap) (locs : List Loc) (ls : Array Slot), f_X12_fits_46 n46 x1 x3 x4 M = some (r0, M0) → Wd K A s (wM K a M) H locs → lv_has ls 5 [(0, .ref (a 0)), (1, .int x1), (2, .ref (a 36)), (3, .int (bI x3)), (4, .int x4)] → W p l e ({ frames := 1, cells := 0, slots := 0, locals := 25 } : Room) s m args below meth c H locs 0 0 (EndI K A (fun _ => wM K a M0) (bI r0) below args s ({ frames := 1, cells := 0, slots := 0, locals := 25 } : Room)) (F0 m 46 ls []) := by
        intro n46
        induction n46 with
        | zero => intro x1 x3 x4 M H locs ls h; exact absurd h (by simp [f_X12_fits_46])
        | succ n46 ih46 =>
          intro x1 x3 x4 M H locs ls h hW hl
          rw [f_X12_fits_46] at h
          refine lv_iload hx hb dX12_fits_46 (lv_at hl 4 rfl) ?_
          refine lv_iconst (v := 5) hx hb dX12_fits_48 (by decide) ?_
          refine lv_icmp_ge (tgt := 76) hx hb dX12_fits_49 (by decide) (fun q8 => ?_) (fun q8 => ?_)
          · have h := ifp q8 h
            refine lv_iload_n hx hb dX12_fits_76 rfl (lv_at hl 3 rfl) ?_
            obtain ⟨rfl, rfl⟩ := Prod.mk.inj (Option.some.inj h)
            exact rt_i hF hr hk (bI_n _) (fun _ => 0) hW rfl dX12_fits_77
          · have h := ifn q8 h
            refine lv_iload_n hx hb dX12_fits_52 rfl (lv_at hl 3 rfl) ?_
            refine lz_eq (tgt := 76) hx hb dX12_fits_53 (by decide) (fun q9 => ?_) (fun q9 => ?_)
            · have h := ifn q9 h
              refine lv_iload_n hx hb dX12_fits_76 rfl (lv_at hl 3 rfl) ?_
              obtain ⟨rfl, rfl⟩ := Prod.mk.inj (Option.some.inj h)
              exact rt_i hF hr hk (bI_n _) (fun _ => 0) hW rfl dX12_fits_77
            · have h := ifp q9 h
              refine lv_aload_n hx hb dX12_fits_56 rfl (lv_at hl 0 rfl) ?_
              refine g_X12_102 hF hW dX12_fits_57 ?_
              refine lv_iload_n hx hb dX12_fits_60 rfl (lv_at hl 1 rfl) ?_
              refine lv_iload hx hb dX12_fits_61 (lv_at hl 4 rfl) ?_
              refine lv_iadd hx hb dX12_fits_63 ?_
              refine lv_aload_n hx hb dX12_fits_64 rfl (lv_at hl 2 rfl) ?_
              refine lv_iload hx hb dX12_fits_65 (lv_at hl 4 rfl) ?_
              obtain ⟨q10, h⟩ := ck_some h
              refine w_lld hF hW (pM_36 K a _) q10 dX12_fits_67 ?_
              refine lv_l2i hx hb dX12_fits_68 rfl ?_
              obtain ⟨q11, h⟩ := ck_some h
              refine w_ist hF hW (pM_31 K a _) q11 (uM_31 K a _ _ _) dX12_fits_69 (fun H locs hW => ?_)
              refine lv_iinc (v := (x4 + 1)) (lv' := [(4, .int (x4 + 1)), (0, .ref (a 0)), (1, .int x1), (2, .ref (a 36)), (3, .int (bI x3))]) hx hb dX12_fits_70 hl (k := 4) rfl rfl (by decide) rfl (fun ls hl => ?_)
              refine lv_goto (tgt := 46) hx hb dX12_fits_73 (by decide) ?_
              exact ih46 x1 x3 (x4 + 1) _ _ _ _ h hW (lv_sub hl [1, 2, 3, 4, 0] rfl)
      intro x1 x3 x4 M H locs ls h hW hl
      rw [f_X12_fits_5] at h
      refine lv_iload hx hb dX12_fits_5 (lv_at hl 4 rfl) ?_
      refine lv_iconst (v := 5) hx hb dX12_fits_7 (by decide) ?_
      refine lv_icmp_ge (tgt := 43) hx hb dX12_fits_8 (by decide) (fun q1 => ?_) (fun q1 => ?_)
      · have h := ifp q1 h
        refine lv_iconst (v := 0) hx hb dX12_fits_43 (by decide) ?_
        refine lv_istore (lv' := [(4, .int 0), (0, .ref (a 0)), (1, .int x1), (2, .ref (a 36)), (3, .int (bI x3))]) hx hb dX12_fits_44 hl (by decide) rfl (fun ls hl => ?_)
        exact J46 100000 x1 x3 0 _ _ _ _ h hW (lv_sub hl [1, 2, 3, 4, 0] rfl)
      · have h := ifn q1 h
        refine lv_iload_n hx hb dX12_fits_11 rfl (lv_at hl 3 rfl) ?_
        refine lz_eq (tgt := 35) hx hb dX12_fits_12 (by decide) (fun q2 => ?_) (fun q2 => ?_)
        · have h := ifn q2 h
          refine lv_iconst (v := 0) hx hb dX12_fits_35 (by decide) ?_
          refine lv_istore_n (lv' := [(3, .int 0), (0, .ref (a 0)), (1, .int x1), (2, .ref (a 36)), (4, .int x4)]) hx hb dX12_fits_36 rfl hl (by decide) rfl (fun ls hl => ?_)
          refine lv_iinc (v := (x4 + 1)) (lv' := [(4, .int (x4 + 1)), (3, .int 0), (0, .ref (a 0)), (1, .int x1), (2, .ref (a 36))]) hx hb dX12_fits_37 hl (k := 4) rfl rfl (by decide) rfl (fun ls hl => ?_)
          refine lv_goto (tgt := 5) hx hb dX12_fits_40 (by decide) ?_
          exact ih5 x1 false (x4 + 1) _ _ _ _ h hW (lv_sub hl [2, 3, 4, 1, 0] rfl)
        · have h := ifp q2 h
          refine lv_aload_n hx hb dX12_fits_15 rfl (lv_at hl 2 rfl) ?_
          refine lv_iload hx hb dX12_fits_16 (lv_at hl 4 rfl) ?_
          obtain ⟨q3, h⟩ := ck_some h
          refine w_lld hF hW (pM_36 K a _) q3 dX12_fits_18 ?_
          refine lv_ldc2 hx hb hF.2.2.2.1 (hF.2.2.1 _ kl_X12_309) dX12_fits_19 ?_
          refine lv_ldc2 hx hb hF.2.2.2.1 (hF.2.2.1 _ kl_X12_280) dX12_fits_22 ?_
          obtain ⟨r4, hc6, h⟩ := bq_some h
          refine cS_i (rest := []) hF hW mw_X12_154 (c_X12_in l K hc6) ⟨Nat.le_of_ble_eq_true rfl, Nat.le_of_ble_eq_true rfl⟩ rfl hl.1 rfl (Nat.le_of_ble_eq_true rfl) dX12_fits_25 ⟨Nat.le_of_ble_eq_true rfl, Nat.le_of_ble_eq_true rfl⟩ (fun _ H locs hW => ?_)
          refine lz_eq (tgt := 35) hx hb dX12_fits_28 (by decide) (fun q7 => ?_) (fun q7 => ?_)
          · have h := ifn q7 h
            refine lv_iconst (v := 0) hx hb dX12_fits_35 (by decide) ?_
            refine lv_istore_n (lv' := [(3, .int 0), (0, .ref (a 0)), (1, .int x1), (2, .ref (a 36)), (4, .int x4)]) hx hb dX12_fits_36 rfl hl (by decide) rfl (fun ls hl => ?_)
            refine lv_iinc (v := (x4 + 1)) (lv' := [(4, .int (x4 + 1)), (3, .int 0), (0, .ref (a 0)), (1, .int x1), (2, .ref (a 36))]) hx hb dX12_fits_37 hl (k := 4) rfl rfl (by decide) rfl (fun ls hl => ?_)
            refine lv_goto (tgt := 5) hx hb dX12_fits_40 (by decide) ?_
            exact ih5 x1 false (x4 + 1) _ _ _ _ h hW (lv_sub hl [2, 3, 4, 1, 0] rfl)
          · have h := ifp q7 h
            refine lv_iconst (v := 1) hx hb dX12_fits_31 (by decide) ?_
            refine lv_goto (tgt := 36) hx hb dX12_fits_32 (by decide) ?_
            refine lv_istore_n (lv' := [(3, .int 1), (0, .ref (a 0)), (1, .int x1), (2, .ref (a 36)), (4, .int x4)]) hx hb dX12_fits_36 rfl hl (by decide) rfl (fun ls hl => ?_)
            refine lv_iinc (v := (x4 + 1)) (lv' := [(4, .int (x4 + 1)), (3, .int 1), (0, .ref (a 0)), (1, .int x1), (2, .ref (a 36))]) hx hb dX12_fits_37 hl (k := 4) rfl rfl (by decide) rfl (fun ls hl => ?_)
            refine lv_goto (tgt := 5) hx hb dX12_fits_40 (by decide) ?_
            exact ih5 x1 true (x4 + 1) _ _ _ _ h hW (lv_sub hl [2, 3, 4, 1, 0] rfl)
  unfold f_X12_fits at h
  refine lv_iconst (v := 1) hx hb dX12_fits_0 (by decide) ?_
  refine lv_istore_n (lv' := [(3, .int 1), (0, .ref (a 0)), (1, .int x1), (2, .ref (a 36))]) hx hb dX12_fits_1 rfl hl (by decide) rfl (fun ls hl => ?_)
  refine lv_iconst (v := 0) hx hb dX12_fits_2 (by decide) ?_
  refine lv_istore (lv' := [(4, .int 0), (3, .int 1), (0, .ref (a 0)), (1, .int x1), (2, .ref (a 36))]) hx hb dX12_fits_3 hl (by decide) rfl (fun ls hl => ?_)
  exact J5 100000 x1 true 0 _ _ _ _ h hW (lv_sub hl [2, 3, 4, 1, 0] rfl)
set_option maxRecDepth 100000 in
set_option maxHeartbeats 1000000 in
theorem c_X12_isActIn (l : Launch) (K : Kx) (a : Nat → Nat) {M : Mem} {x1 : Int32} {x2 : Int32} {r0 : Bool} (h : f_X12_isActIn M x1 x2 = some r0) : CMi l yX12_isActIn cX12_isActIn 3 (some .boolean) ({ frames := 1, cells := 0, slots := 0, locals := 23 } : Room) K [.ref (a 0), .int x1, .int x2] (wM K a M) (fun _ => wM K a M) (bI r0) := by
  refine cs_i (by decide +kernel) (Nat.le_of_ble_eq_true rfl) ?_
  intro p e s m args below meth c A ls hF hr hk hnm hW hl
  have hx := hF.1
  have hb := hF.2.1
  have hl : lv_has ls 3 [(0, .ref (a 0)), (1, .int x1), (2, .int x2)] := hl
  obtain ⟨H, hH⟩ : ∃ z, z = s.heap := ⟨_, rfl⟩
  rw [← hH] at hW ⊢
  unfold f_X12_isActIn at h
  refine lv_aload_n hx hb dX12_isActIn_0 rfl (lv_at hl 0 rfl) ?_
  refine g_X12_26 hF hW dX12_isActIn_1 ?_
  refine lv_iload_n hx hb dX12_isActIn_4 rfl (lv_at hl 1 rfl) ?_
  obtain ⟨q1, h⟩ := ck_some h
  refine w_ild hF hW (pM_6 K a _) q1 dX12_isActIn_5 ?_
  refine lv_iconst (v := 3) hx hb dX12_isActIn_6 (by decide) ?_
  refine lv_icmp_ne (tgt := 23) hx hb dX12_isActIn_7 (by decide) (fun q2 => ?_) (fun q2 => ?_)
  · have h := ifn q2 h
    refine lv_iconst (v := 0) hx hb dX12_isActIn_23 (by decide) ?_
    obtain rfl := Option.some.inj h
    exact rt_i hF hr hk (bI_n false) (fun _ => 0) hW rfl dX12_isActIn_24
  · have h := ifp q2 h
    refine lv_aload_n hx hb dX12_isActIn_10 rfl (lv_at hl 0 rfl) ?_
    refine lv_iload_n hx hb dX12_isActIn_11 rfl (lv_at hl 1 rfl) ?_
    refine lv_iload_n hx hb dX12_isActIn_12 rfl (lv_at hl 2 rfl) ?_
    obtain ⟨r3, hc5, h⟩ := bq_some h
    refine cV_i (ci := 12) (q0 := 0) (rest := []) hF hW mw_X12_292 (c_X12_isIn l K a hc5) ⟨Nat.le_of_ble_eq_true rfl, Nat.le_of_ble_eq_true rfl⟩ rfl rfl (pM_0 K a _) rfl hl.1 rfl (Nat.le_of_ble_eq_true rfl) dX12_isActIn_13 ⟨Nat.le_of_ble_eq_true rfl, Nat.le_of_ble_eq_true rfl⟩ (fun _ H locs hW => ?_)
    refine lz_eq (tgt := 23) hx hb dX12_isActIn_16 (by decide) (fun q6 => ?_) (fun q6 => ?_)
    · have h := ifn q6 h
      refine lv_iconst (v := 0) hx hb dX12_isActIn_23 (by decide) ?_
      obtain rfl := Option.some.inj h
      exact rt_i hF hr hk (bI_n false) (fun _ => 0) hW rfl dX12_isActIn_24
    · have h := ifp q6 h
      refine lv_iconst (v := 1) hx hb dX12_isActIn_19 (by decide) ?_
      refine lv_goto (tgt := 24) hx hb dX12_isActIn_20 (by decide) ?_
      obtain rfl := Option.some.inj h
      exact rt_i hF hr hk (bI_n true) (fun _ => 0) hW rfl dX12_isActIn_24
set_option maxRecDepth 100000 in
set_option maxHeartbeats 1000000 in
theorem c_X12_swapRows (l : Launch) (K : Kx) (a : Nat → Nat) {M M0 : Mem} {x1 : Int32} {x2 : Int32}  (h : f_X12_swapRows M x1 x2 = some M0) : CMv l yX12_swapRows cX12_swapRows 9 ({ frames := 2, cells := 0, slots := 0, locals := 45 } : Room) K [.ref (a 0), .int x1, .int x2] (wM K a M) (fun _ => wM K a M0) := by
  refine cs_v (by decide +kernel) (Nat.le_of_ble_eq_true rfl) ?_
  intro p e s m args below meth c A ls hF hr hk hnm hW hl
  have hx := hF.1
  have hb := hF.2.1
  have hl : lv_has ls 9 [(0, .ref (a 0)), (1, .int x1), (2, .int x2)] := hl
  obtain ⟨H, hH⟩ : ∃ z, z = s.heap := ⟨_, rfl⟩
  rw [← hH] at hW ⊢
  have J10 : ∀ (n10 : Nat) (x1 : Int32) (x2 : Int32) (x3 : Int32) (x4 : Int32) (M : Mem) (H : Heap) (locs : List Loc) (ls : Array Slot), f_X12_swapRows_10 n10 x1 x2 x3 x4 M = some M0 → Wd K A s (wM K a M) H locs → lv_has ls 9 [(0, .ref (a 0)), (1, .int x1), (2, .int x2), (3, .int x3), (4, .int x4)] → W p l e ({ frames := 2, cells := 0, slots := 0, locals := 45 } : Room) s m args below meth c H locs 0 0 (EndV K A (fun _ => wM K a M0) below args s ({ frames := 2, cells := 0, slots := 0, locals := 45 } : Room)) (F0 m 10 ls []) := by
    intro n10
    induction n10 with
    | zero => intro x1 x2 x3 x4 M H locs ls h; exact absurd h (by simp [f_X12_swapRows_10])
    | succ n10 ih10 =>
      have J71 : ∀ (n71 : Nat) (x1 : Int32) (x2 : Int32) (x3 : Int32) (x4 : Int32) (x5 : Int32) (x6 : Int32) (x7 : Int32) (M : Mem) (H : Heap) (locs : List Loc) (ls : Array Slot), f_X12_swapRows_71 (f_X12_swapRows_10 n10) n71 x1 x2 x3 x4 x5 x6 x7 M = some M0 → Wd K A s (wM K a M) H locs → lv_has ls 9 [(0, .ref (a 0)), (1, .int x1), (2, .int x2), (3, .int x3), (4, .int x4), (5, .int x5), (6, .int x6), (7, .int x7)] → W p l e ({ frames := 2, cells := 0, slots := 0, locals := 45 } : Room) s m args below meth c H locs 0 0 (EndV K A (fun _ => wM K a M0) below args s ({ frames := 2, cells := 0, slots := 0, locals := 45 } : Room)) (F0 m 71 ls []) := by
        intro n71
        induction n71 with
        | zero => intro x1 x2 x3 x4 x5 x6 x7 M H locs ls h; exact absurd h (by simp [f_X12_swapRows_71])
        | succ n71 ih71 =>
          intro x1 x2 x3 x4 x5 x6 x7 M H locs ls h hW hl
          rw [f_X12_swapRows_71] at h
          refine lv_iload hx hb dX12_swapRows_71 (lv_at hl 7 rfl) ?_
          refine lv_bipush (v := 6) hx hb dX12_swapRows_73 (by decide) ?_
          refine lv_icmp_ge (tgt := 128) hx hb dX12_swapRows_75 (by decide) (fun q21 => ?_) (fun q21 => ?_)
          · have h := ifp q21 h
            refine lv_iinc (v := (x4 + 1)) (lv' := [(4, .int (x4 + 1)), (0, .ref (a 0)), (1, .int x1), (2, .int x2), (3, .int x3), (5, .int x5), (6, .int x6), (7, .int x7)]) hx hb dX12_swapRows_128 hl (k := 4) rfl rfl (by decide) rfl (fun ls hl => ?_)
            refine lv_goto (tgt := 10) hx hb dX12_swapRows_131 (by decide) ?_
            exact ih10 x1 x2 x3 (x4 + 1) _ _ _ _ h hW (lv_sub hl [1, 2, 3, 4, 0] rfl)
          · have h := ifn q21 h
            refine lv_aload_n hx hb dX12_swapRows_78 rfl (lv_at hl 0 rfl) ?_
            refine g_X12_102 hF hW dX12_swapRows_79 ?_
            refine lv_iload hx hb dX12_swapRows_82 (lv_at hl 5 rfl) ?_
            refine lv_iload hx hb dX12_swapRows_84 (lv_at hl 7 rfl) ?_
            refine lv_iadd hx hb dX12_swapRows_86 ?_
            obtain ⟨q22, h⟩ := ck_some h
            refine w_ild hF hW (pM_31 K a _) q22 dX12_swapRows_87 ?_
            refine lv_istore (lv' := [(8, .int (M.1 31 (x5 + x7).toNatClampNeg)), (0, .ref (a 0)), (1, .int x1), (2, .int x2), (3, .int x3), (4, .int x4), (5, .int x5), (6, .int x6), (7, .int x7)]) hx hb dX12_swapRows_88 hl (by decide) rfl (fun ls hl => ?_)
            refine lv_aload_n hx hb dX12_swapRows_90 rfl (lv_at hl 1 rfl) ?_
            refine g_X12_102 hF hW dX12_swapRows_91 ?_
            refine lv_iload hx hb dX12_swapRows_94 (lv_at hl 6 rfl) ?_
            refine lv_iload hx hb dX12_swapRows_96 (lv_at hl 8 rfl) ?_
            refine lv_iadd hx hb dX12_swapRows_98 ?_
            refine lv_aload_n hx hb dX12_swapRows_99 rfl (lv_at hl 1 rfl) ?_
            refine g_X12_102 hF hW dX12_swapRows_100 ?_
            refine lv_iload hx hb dX12_swapRows_103 (lv_at hl 7 rfl) ?_
            refine lv_iload hx hb dX12_swapRows_105 (lv_at hl 8 rfl) ?_
            refine lv_iadd hx hb dX12_swapRows_107 ?_
            obtain ⟨q23, h⟩ := ck_some h
            refine w_ild hF hW (pM_31 K a _) q23 dX12_swapRows_108 ?_
            obtain ⟨q24, h⟩ := ck_some h
            refine w_ist hF hW (pM_31 K a _) q24 (uM_31 K a _ _ _) dX12_swapRows_109 (fun H locs hW => ?_)
            refine lv_aload_n hx hb dX12_swapRows_110 rfl (lv_at hl 1 rfl) ?_
            refine g_X12_102 hF hW dX12_swapRows_111 ?_
            refine lv_iload hx hb dX12_swapRows_114 (lv_at hl 7 rfl) ?_
            refine lv_iload hx hb dX12_swapRows_116 (lv_at hl 8 rfl) ?_
            refine lv_iadd hx hb dX12_swapRows_118 ?_
            refine lv_iload hx hb dX12_swapRows_119 (lv_at hl 0 rfl) ?_
            obtain ⟨q25, h⟩ := ck_some h
            refine w_ist hF hW (pM_31 K a _) q25 (uM_31 K a _ _ _) dX12_swapRows_121 (fun H locs hW => ?_)
            refine lv_iinc (v := (x7 + 1)) (lv' := [(7, .int (x7 + 1)), (8, .int (M.1 31 (x5 + x7).toNatClampNeg)), (0, .ref (a 0)), (1, .int x1), (2, .int x2), (3, .int x3), (4, .int x4), (5, .int x5), (6, .int x6)]) hx hb dX12_swapRows_122 hl (k := 8) rfl rfl (by decide) rfl (fun ls hl => ?_)
            refine lv_goto (tgt := 71) hx hb dX12_swapRows_125 (by decide) ?_
            exact ih71 x1 x2 x3 x4 x5 x6 (x7 + 1) _ _ _ _ h hW (lv_sub hl [2, 3, 4, 5, 6, 7, 8, 0] rfl)
      intro x1 x2 x3 x4 M H locs ls h hW hl
      rw [f_X12_swapRows_10] at h
      refine lv_iload hx hb dX12_swapRows_10 (lv_at hl 4 rfl) ?_
      refine lv_aload_n hx hb dX12_swapRows_12 rfl (lv_at hl 0 rfl) ?_
      refine g_X12_170 hF hW dX12_swapRows_13 ?_
      refine lv_icmp_ge (tgt := 134) hx hb dX12_swapRows_16 (by decide) (fun q2 => ?_) (fun q2 => ?_)
      · have h := ifp q2 h
        obtain rfl := Option.some.inj h
        exact rt_v hF hr hk (fun _ => 0) hW dX12_swapRows_134
      · have h := ifn q2 h
        refine lv_aload_n hx hb dX12_swapRows_19 rfl (lv_at hl 0 rfl) ?_
        refine lv_iload hx hb dX12_swapRows_20 (lv_at hl 4 rfl) ?_
        refine lv_iload_n hx hb dX12_swapRows_22 rfl (lv_at hl 1 rfl) ?_
        obtain ⟨r3, hc5, h⟩ := bq_some h
        refine cV_i (ci := 12) (q0 := 0) (rest := []) hF hW mw_X12_311 (c_X12_isActIn l K a hc5) ⟨Nat.le_of_ble_eq_true rfl, Nat.le_of_ble_eq_true rfl⟩ rfl rfl (pM_0 K a _) rfl hl.1 rfl (Nat.le_of_ble_eq_true rfl) dX12_swapRows_23 ⟨Nat.le_of_ble_eq_true rfl, Nat.le_of_ble_eq_true rfl⟩ (fun _ H locs hW => ?_)
        refine lz_eq (tgt := 128) hx hb dX12_swapRows_26 (by decide) (fun q6 => ?_) (fun q6 => ?_)
        · have h := ifn q6 h
          refine lv_iinc (v := (x4 + 1)) (lv' := [(4, .int (x4 + 1)), (0, .ref (a 0)), (1, .int x1), (2, .int x2), (3, .int x3)]) hx hb dX12_swapRows_128 hl (k := 4) rfl rfl (by decide) rfl (fun ls hl => ?_)
          refine lv_goto (tgt := 10) hx hb dX12_swapRows_131 (by decide) ?_
          exact ih10 x1 x2 x3 (x4 + 1) _ _ _ _ h hW (lv_sub hl [1, 2, 3, 4, 0] rfl)
        · have h := ifp q6 h
          refine lv_aload_n hx hb dX12_swapRows_29 rfl (lv_at hl 0 rfl) ?_
          refine g_X12_32 hF hW dX12_swapRows_30 ?_
          refine lv_iload hx hb dX12_swapRows_33 (lv_at hl 4 rfl) ?_
          obtain ⟨q7, h⟩ := ck_some h
          refine w_ild hF hW (pM_8 K a _) q7 dX12_swapRows_35 ?_
          refine lv_iload_n hx hb dX12_swapRows_36 rfl (lv_at hl 2 rfl) ?_
          refine lv_icmp_le (tgt := 128) hx hb dX12_swapRows_37 (by decide) (fun q8 => ?_) (fun q8 => ?_)
          · have h := ifp q8 h
            refine lv_iinc (v := (x4 + 1)) (lv' := [(4, .int (x4 + 1)), (0, .ref (a 0)), (1, .int x1), (2, .int x2), (3, .int x3)]) hx hb dX12_swapRows_128 hl (k := 4) rfl rfl (by decide) rfl (fun ls hl => ?_)
            refine lv_goto (tgt := 10) hx hb dX12_swapRows_131 (by decide) ?_
            exact ih10 x1 x2 x3 (x4 + 1) _ _ _ _ h hW (lv_sub hl [1, 2, 3, 4, 0] rfl)
          · have h := ifn q8 h
            refine lv_iload hx hb dX12_swapRows_40 (lv_at hl 4 rfl) ?_
            refine lv_aload_n hx hb dX12_swapRows_42 rfl (lv_at hl 0 rfl) ?_
            refine lv_iload hx hb dX12_swapRows_43 (lv_at hl 4 rfl) ?_
            refine lv_iload_n hx hb dX12_swapRows_45 rfl (lv_at hl 3 rfl) ?_
            obtain ⟨r9, hc11, h⟩ := bq_some h
            refine cV_i (ci := 12) (q0 := 0) (rest := [.int x4]) hF hW mw_X12_314 (c_X12_loopRow l K a hc11) ⟨Nat.le_of_ble_eq_true rfl, Nat.le_of_ble_eq_true rfl⟩ rfl rfl (pM_0 K a _) rfl hl.1 rfl (Nat.le_of_ble_eq_true rfl) dX12_swapRows_46 ⟨Nat.le_of_ble_eq_true rfl, Nat.le_of_ble_eq_true rfl⟩ (fun _ H locs hW => ?_)
            obtain ⟨r12, hc14, h⟩ := bq_some h
            refine cS_i (rest := []) hF hW mw_X12_295 (c_X12_rowAt l K hc14) ⟨Nat.le_of_ble_eq_true rfl, Nat.le_of_ble_eq_true rfl⟩ rfl hl.1 rfl (Nat.le_of_ble_eq_true rfl) dX12_swapRows_49 ⟨Nat.le_of_ble_eq_true rfl, Nat.le_of_ble_eq_true rfl⟩ (fun _ H locs hW => ?_)
            refine lv_istore (lv' := [(5, .int r12), (0, .ref (a 0)), (1, .int x1), (2, .int x2), (3, .int x3), (4, .int x4)]) hx hb dX12_swapRows_52 hl (by decide) rfl (fun ls hl => ?_)
            refine lv_iload hx hb dX12_swapRows_54 (lv_at hl 5 rfl) ?_
            refine lv_aload_n hx hb dX12_swapRows_56 rfl (lv_at hl 1 rfl) ?_
            refine lv_iload hx hb dX12_swapRows_57 (lv_at hl 5 rfl) ?_
            refine lv_iload_n hx hb dX12_swapRows_59 rfl (lv_at hl 3 rfl) ?_
            obtain ⟨r15, hc17, h⟩ := bq_some h
            refine cV_i (ci := 12) (q0 := 0) (rest := [.int x4]) hF hW mw_X12_314 (c_X12_loopRow l K a hc17) ⟨Nat.le_of_ble_eq_true rfl, Nat.le_of_ble_eq_true rfl⟩ rfl rfl (pM_0 K a _) rfl hl.1 rfl (Nat.le_of_ble_eq_true rfl) dX12_swapRows_60 ⟨Nat.le_of_ble_eq_true rfl, Nat.le_of_ble_eq_true rfl⟩ (fun _ H locs hW => ?_)
            obtain ⟨r18, hc20, h⟩ := bq_some h
            refine cS_i (rest := []) hF hW mw_X12_295 (c_X12_rowAt l K hc20) ⟨Nat.le_of_ble_eq_true rfl, Nat.le_of_ble_eq_true rfl⟩ rfl hl.1 rfl (Nat.le_of_ble_eq_true rfl) dX12_swapRows_63 ⟨Nat.le_of_ble_eq_true rfl, Nat.le_of_ble_eq_true rfl⟩ (fun _ H locs hW => ?_)
            refine lv_istore (lv' := [(6, .int r18), (5, .int r12), (0, .ref (a 0)), (1, .int x1), (2, .int x2), (3, .int x3), (4, .int x4)]) hx hb dX12_swapRows_66 hl (by decide) rfl (fun ls hl => ?_)
            refine lv_iconst (v := 0) hx hb dX12_swapRows_68 (by decide) ?_
            refine lv_istore (lv' := [(7, .int 0), (6, .int r18), (5, .int r12), (0, .ref (a 0)), (1, .int x1), (2, .int x2), (3, .int x3), (4, .int x4)]) hx hb dX12_swapRows_69 hl (by decide) rfl (fun ls hl => ?_)
            exact J71 100000 x1 x2 x3 x4 r12 r18 0 _ _ _ _ h hW (lv_sub hl [3, 4, 5, 6, 7, 2, 1, 0] rfl)
  unfold f_X12_swapRows at h
  refine lv_aload_n hx hb dX12_swapRows_0 rfl (lv_at hl 0 rfl) ?_
  refine g_X12_32 hF hW dX12_swapRows_1 ?_
  refine lv_iload_n hx hb dX12_swapRows_4 rfl (lv_at hl 1 rfl) ?_
  obtain ⟨q1, h⟩ := ck_some h
  refine w_ild hF hW (pM_8 K a _) q1 dX12_swapRows_5 ?_
  refine lv_istore_n (lv' := [(3, .int (M.1 8 x1.toNatClampNeg)), (0, .ref (a 0)), (1, .int x1), (2, .int x2)]) hx hb dX12_swapRows_6 rfl hl (by decide) rfl (fun ls hl => ?_)
  refine lv_iconst (v := 0) hx hb dX12_swapRows_7 (by decide) ?_
  refine lv_istore (lv' := [(4, .int 0), (3, .int (M.1 8 x1.toNatClampNeg)), (0, .ref (a 0)), (1, .int x1), (2, .int x2)]) hx hb dX12_swapRows_8 hl (by decide) rfl (fun ls hl => ?_)
  exact J10 100000 x1 x2 (M.1 8 x1.toNatClampNeg) 0 _ _ _ _ h hW (lv_sub hl [2, 3, 4, 1, 0] rfl)
