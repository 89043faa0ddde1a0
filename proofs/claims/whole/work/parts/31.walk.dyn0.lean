set_option maxRecDepth 100000 in
set_option maxHeartbeats 1000000 in
theorem c_X5_hasRow (l : Launch) (K : Kx) (a d : Nat → Nat) {M : Mem} {i0 : Nat} {x1 : Int64} {r0 : Bool} (hi0 : i0 < M.2.2.2.2.2 0) (h : f_X5_hasRow M i0 x1 = some r0) : CMi l yX5_hasRow cX5_hasRow 3 (some .boolean) ({ frames := 0, cells := 0, slots := 0, locals := 0 } : Room) K [.ref (d (6 * i0)), .long x1] (wC K a d M) (fun _ => wC K a d M) (bI r0) := by
  refine cs_i (by decide +kernel) (Nat.le_of_ble_eq_true rfl) ?_
  intro p e s m args below meth c A ls hF hr hk hnm hW hl
  have hx := hF.1
  have hb := hF.2.1
  have hl : lv_has ls 3 [(0, .ref (d (6 * i0))), (1, .long x1)] := hl
  obtain ⟨H, hH⟩ : ∃ z, z = s.heap := ⟨_, rfl⟩
  rw [← hH] at hW ⊢
  unfold f_X5_hasRow at h
  refine lv_lload_n hx hb dX5_hasRow_0 rfl (lv_at hl 1 rfl) ?_
  refine lv_lconst (v := 0) hx hb dX5_hasRow_1 (by decide) ?_
  refine ll_lt (tgt := 21) hx hb dX5_hasRow_2 dX5_hasRow_3 (by decide) (fun q1 => ?_) (fun q1 => ?_)
  · have h := ifp q1 h
    refine lv_iconst (v := 0) hx hb dX5_hasRow_21 (by decide) ?_
    obtain rfl := Option.some.inj h
    exact rt_i hF hr hk (bI_n false) (fun _ => 0) hW rfl dX5_hasRow_22
  · have h := ifn q1 h
    refine lv_lload_n hx hb dX5_hasRow_6 rfl (lv_at hl 1 rfl) ?_
    refine lv_aload_n hx hb dX5_hasRow_7 rfl (lv_at hl 0 rfl) ?_
    refine w_get hF hW (pR_0 K a d _ _ hi0) rfl iX5 1 (by decide) fl_X5_15 rfl dX5_hasRow_8 ?_
    refine w_alen (v := nI (M.2.2.2.2.2 (i0 + 2))) 0 hF hW (pR_1 K a d _ _ hi0) rfl rfl dX5_hasRow_11 ?_
    refine lv_i2l hx hb dX5_hasRow_12 rfl ?_
    refine ll_ge (tgt := 21) hx hb dX5_hasRow_13 dX5_hasRow_14 (by decide) (fun q2 => ?_) (fun q2 => ?_)
    · have h := ifp q2 h
      refine lv_iconst (v := 0) hx hb dX5_hasRow_21 (by decide) ?_
      obtain rfl := Option.some.inj h
      exact rt_i hF hr hk (bI_n false) (fun _ => 0) hW rfl dX5_hasRow_22
    · have h := ifn q2 h
      refine lv_iconst (v := 1) hx hb dX5_hasRow_17 (by decide) ?_
      refine lv_goto (tgt := 22) hx hb dX5_hasRow_18 (by decide) ?_
      obtain rfl := Option.some.inj h
      exact rt_i hF hr hk (bI_n true) (fun _ => 0) hW rfl dX5_hasRow_22
set_option maxRecDepth 100000 in
set_option maxHeartbeats 1000000 in
theorem c_X5_renew (l : Launch) (K : Kx) (a d : Nat → Nat) {M M0 : Mem} {i0 : Nat} {x1 : Int32} {x2 : Int32}  (hi0 : i0 < M.2.2.2.2.2 0) (h : f_X5_renew M i0 x1 x2 = some M0) : CMv l yX5_renew cX5_renew 3 ({ frames := 2, cells := 0, slots := 0, locals := 65 } : Room) K [.ref (d (6 * i0)), .int x1, .int x2] (wC K a d M) (fun _ => wC K a d M0) := by
  refine cs_v (by decide +kernel) (Nat.le_of_ble_eq_true rfl) ?_
  intro p e s m args below meth c A ls hF hr hk hnm hW hl
  have hx := hF.1
  have hb := hF.2.1
  have hl : lv_has ls 3 [(0, .ref (d (6 * i0))), (1, .int x1), (2, .int x2)] := hl
  obtain ⟨H, hH⟩ : ∃ z, z = s.heap := ⟨_, rfl⟩
  rw [← hH] at hW ⊢
  unfold f_X5_renew at h
  refine lv_aload_n hx hb dX5_renew_0 rfl (lv_at hl 0 rfl) ?_
  refine w_get hF hW (pR_0 K a d _ _ hi0) rfl iX5 1 (by decide) fl_X5_15 rfl dX5_renew_1 ?_
  refine lv_iload_n hx hb dX5_renew_4 rfl (lv_at hl 1 rfl) ?_
  refine lv_iload_n hx hb dX5_renew_5 rfl (lv_at hl 2 rfl) ?_
  obtain ⟨q1, h⟩ := ck_some h
  refine w_ist hF hW (pR_1 K a d _ _ hi0) q1 (uR_1 K a d _ _ _ _ hi0) dX5_renew_6 (fun H locs hW => ?_)
  refine lv_aload_n hx hb dX5_renew_7 rfl (lv_at hl 0 rfl) ?_
  refine w_get hF hW (pR_0 K a d _ _ hi0) rfl iX5 2 (by decide) fl_X5_19 rfl dX5_renew_8 ?_
  refine lv_iload_n hx hb dX5_renew_11 rfl (lv_at hl 1 rfl) ?_
  refine lv_bipush (v := 20) hx hb dX5_renew_12 (by decide) ?_
  refine lv_imul hx hb dX5_renew_14 ?_
  refine lv_iload_n hx hb dX5_renew_15 rfl (lv_at hl 1 rfl) ?_
  refine lv_bipush (v := 20) hx hb dX5_renew_16 (by decide) ?_
  refine lv_imul hx hb dX5_renew_18 ?_
  refine lv_iload_n hx hb dX5_renew_19 rfl (lv_at hl 2 rfl) ?_
  refine lv_iadd hx hb dX5_renew_20 ?_
  refine lv_lconst (v := 0) hx hb dX5_renew_21 (by decide) ?_
  obtain ⟨q2, h⟩ := cf_some h
  obtain ⟨q3, h⟩ := cN_some h
  refine cS_v (rest := []) hF hW mw_X5_29 (c_fillJ_r l K (pR_2 K a d _ _ hi0) q2 q3) ⟨Nat.le_of_ble_eq_true rfl, Nat.le_of_ble_eq_true rfl⟩ rfl hl.1 rfl (Nat.le_of_ble_eq_true rfl) dX5_renew_22 ⟨Nat.le_of_ble_eq_true rfl, Nat.le_of_ble_eq_true rfl⟩ (fun _ H locs hW => ?_)
  have hW : Wd K A s (wC K a d (tLf (tI M (4 * i0 + 1) x1.toNatClampNeg x2) i0 (fl_ ((tI M (4 * i0 + 1) x1.toNatClampNeg x2).2.2.2.2.1 i0) (x1 * 20).toNatClampNeg ((x1 * 20) + x2).toNatClampNeg 0))) H locs := by rw [← vR_2 K a d (tI M (4 * i0 + 1) x1.toNatClampNeg x2) _ _ hi0]; exact hW
  obtain rfl := Option.some.inj h
  exact rt_v hF hr hk (fun _ => 0) hW dX5_renew_25
set_option maxRecDepth 100000 in
set_option maxHeartbeats 1000000 in
theorem c_X5_lack (l : Launch) (K : Kx) (a d : Nat → Nat) {M : Mem} {i0 : Nat} {x1 : Int64} {x3 : Int64} {r0 : Int32} (hi0 : i0 < M.2.2.2.2.2 0) (h : f_X5_lack M i0 x1 x3 = some r0) : CMi l yX5_lack cX5_lack 6 (some .int) ({ frames := 1, cells := 0, slots := 0, locals := 22 } : Room) K [.ref (d (6 * i0)), .long x1, .long x3] (wC K a d M) (fun _ => wC K a d M) r0 := by
  refine cs_i (by decide +kernel) (Nat.le_of_ble_eq_true rfl) ?_
  intro p e s m args below meth c A ls hF hr hk hnm hW hl
  have hx := hF.1
  have hb := hF.2.1
  have hl : lv_has ls 6 [(0, .ref (d (6 * i0))), (1, .long x1), (3, .long x3)] := hl
  obtain ⟨H, hH⟩ : ∃ z, z = s.heap := ⟨_, rfl⟩
  rw [← hH] at hW ⊢
  unfold f_X5_lack at h
  refine lv_aload_n hx hb dX5_lack_0 rfl (lv_at hl 0 rfl) ?_
  refine lv_lload_n hx hb dX5_lack_1 rfl (lv_at hl 1 rfl) ?_
  obtain ⟨r1, hc3, h⟩ := bq_some h
  refine cV_i (ci := 5) (rest := []) hF hW mw_X5_32 (c_X5_hasRow l K a d hi0 hc3) ⟨Nat.le_of_ble_eq_true rfl, Nat.le_of_ble_eq_true rfl⟩ rfl rfl (pR_0 K a d _ _ hi0) rfl hl.1 rfl (Nat.le_of_ble_eq_true rfl) dX5_lack_2 ⟨Nat.le_of_ble_eq_true rfl, Nat.le_of_ble_eq_true rfl⟩ (fun _ H locs hW => ?_)
  refine lz_ne (tgt := 10) hx hb dX5_lack_5 (by decide) (fun q4 => ?_) (fun q4 => ?_)
  · have h := ifp q4 h
    refine lv_aload_n hx hb dX5_lack_10 rfl (lv_at hl 0 rfl) ?_
    refine w_get hF hW (pR_0 K a d _ _ hi0) rfl iX5 1 (by decide) fl_X5_15 rfl dX5_lack_11 ?_
    refine lv_lload_n hx hb dX5_lack_14 rfl (lv_at hl 1 rfl) ?_
    refine lv_l2i hx hb dX5_lack_15 rfl ?_
    obtain ⟨q5, h⟩ := ck_some h
    refine w_ild hF hW (pR_1 K a d _ _ hi0) q5 dX5_lack_16 ?_
    refine lv_istore (lv' := [(5, .int ((M.2.2.2.1 (4 * i0 + 1)) x1.toInt32.toNatClampNeg)), (0, .ref (d (6 * i0))), (1, .long x1), (3, .long x3)]) hx hb dX5_lack_17 hl (by decide) rfl (fun ls hl => ?_)
    refine lv_iload hx hb dX5_lack_19 (lv_at hl 0 rfl) ?_
    refine lv_iconst (v := (-1)) hx hb dX5_lack_21 (by decide) ?_
    refine lv_icmp_ne (tgt := 27) hx hb dX5_lack_22 (by decide) (fun q6 => ?_) (fun q6 => ?_)
    · have h := ifn q6 h
      refine lv_lload_n hx hb dX5_lack_27 rfl (lv_at hl 3 rfl) ?_
      refine lv_lconst (v := 0) hx hb dX5_lack_28 (by decide) ?_
      refine ll_lt (tgt := 45) hx hb dX5_lack_29 dX5_lack_30 (by decide) (fun q7 => ?_) (fun q7 => ?_)
      · have h := ifp q7 h
        refine lv_iconst (v := 2) hx hb dX5_lack_45 (by decide) ?_
        obtain rfl := Option.some.inj h
        exact rt_i hF hr hk rfl (fun _ => 0) hW rfl dX5_lack_46
      · have h := ifn q7 h
        refine lv_lload_n hx hb dX5_lack_33 rfl (lv_at hl 3 rfl) ?_
        refine lv_iload hx hb dX5_lack_34 (lv_at hl 0 rfl) ?_
        refine lv_i2l hx hb dX5_lack_36 rfl ?_
        refine ll_ge (tgt := 45) hx hb dX5_lack_37 dX5_lack_38 (by decide) (fun q8 => ?_) (fun q8 => ?_)
        · have h := ifp q8 h
          refine lv_iconst (v := 2) hx hb dX5_lack_45 (by decide) ?_
          obtain rfl := Option.some.inj h
          exact rt_i hF hr hk rfl (fun _ => 0) hW rfl dX5_lack_46
        · have h := ifn q8 h
          refine lv_iconst (v := 0) hx hb dX5_lack_41 (by decide) ?_
          refine lv_goto (tgt := 46) hx hb dX5_lack_42 (by decide) ?_
          obtain rfl := Option.some.inj h
          exact rt_i hF hr hk rfl (fun _ => 0) hW rfl dX5_lack_46
    · have h := ifp q6 h
      refine lv_iconst (v := 1) hx hb dX5_lack_25 (by decide) ?_
      obtain rfl := Option.some.inj h
      exact rt_i hF hr hk rfl (fun _ => 0) hW rfl dX5_lack_26
  · have h := ifn q4 h
    refine lv_iconst (v := 2) hx hb dX5_lack_8 (by decide) ?_
    obtain rfl := Option.some.inj h
    exact rt_i hF hr hk rfl (fun _ => 0) hW rfl dX5_lack_9
set_option maxRecDepth 100000 in
set_option maxHeartbeats 1000000 in
theorem c_X5_load (l : Launch) (K : Kx) (a d : Nat → Nat) {M : Mem} {i0 : Nat} {x1 : Int32} {x2 : Int32} {r0 : Int64} (hi0 : i0 < M.2.2.2.2.2 0) (h : f_X5_load M i0 x1 x2 = some r0) : CMl l yX5_load cX5_load 3 ({ frames := 0, cells := 0, slots := 0, locals := 0 } : Room) K [.ref (d (6 * i0)), .int x1, .int x2] (wC K a d M) (fun _ => wC K a d M) r0 := by
  refine cs_l (by decide +kernel) (Nat.le_of_ble_eq_true rfl) ?_
  intro p e s m args below meth c A ls hF hr hk hnm hW hl
  have hx := hF.1
  have hb := hF.2.1
  have hl : lv_has ls 3 [(0, .ref (d (6 * i0))), (1, .int x1), (2, .int x2)] := hl
  obtain ⟨H, hH⟩ : ∃ z, z = s.heap := ⟨_, rfl⟩
  rw [← hH] at hW ⊢
  unfold f_X5_load at h
  refine lv_aload_n hx hb dX5_load_0 rfl (lv_at hl 0 rfl) ?_
  refine w_get hF hW (pR_0 K a d _ _ hi0) rfl iX5 2 (by decide) fl_X5_19 rfl dX5_load_1 ?_
  refine lv_iload_n hx hb dX5_load_4 rfl (lv_at hl 1 rfl) ?_
  refine lv_bipush (v := 20) hx hb dX5_load_5 (by decide) ?_
  refine lv_imul hx hb dX5_load_7 ?_
  refine lv_iload_n hx hb dX5_load_8 rfl (lv_at hl 2 rfl) ?_
  refine lv_iadd hx hb dX5_load_9 ?_
  obtain ⟨q1, h⟩ := ck_some h
  refine w_lld hF hW (pR_2 K a d _ _ hi0) q1 dX5_load_10 ?_
  obtain rfl := Option.some.inj h
  exact rt_l hF hr hk (fun _ => 0) hW rfl dX5_load_11
set_option maxRecDepth 100000 in
set_option maxHeartbeats 1000000 in
theorem c_X5_cut (l : Launch) (K : Kx) (a d : Nat → Nat) {M : Mem} {i0 : Nat} {x1 : Int64} {r0 : Int64} (hi0 : i0 < M.2.2.2.2.2 0) (h : f_X5_cut M i0 x1 = some r0) : CMl l yX5_cut cX5_cut 3 ({ frames := 0, cells := 0, slots := 0, locals := 0 } : Room) K [.ref (d (6 * i0)), .long x1] (wC K a d M) (fun _ => wC K a d M) r0 := by
  refine cs_l (by decide +kernel) (Nat.le_of_ble_eq_true rfl) ?_
  intro p e s m args below meth c A ls hF hr hk hnm hW hl
  have hx := hF.1
  have hb := hF.2.1
  have hl : lv_has ls 3 [(0, .ref (d (6 * i0))), (1, .long x1)] := hl
  obtain ⟨H, hH⟩ : ∃ z, z = s.heap := ⟨_, rfl⟩
  rw [← hH] at hW ⊢
  unfold f_X5_cut at h
  refine lv_aload_n hx hb dX5_cut_0 rfl (lv_at hl 0 rfl) ?_
  refine w_get hF hW (pR_0 K a d _ _ hi0) rfl iX5 0 (by decide) fl_X5_9 rfl dX5_cut_1 ?_
  by_cases q1 : (M.2.2.2.1 (4 * i0) 0) = 0
  · have h := ifp q1 h
    refine lv_tableIn (tgt := 32) hx hb dX5_cut_4 (by rw [q1]; decide) (by rw [q1]; decide) (by rw [q1]; rfl) (by decide) ?_
    refine lv_lload_n hx hb dX5_cut_32 rfl (lv_at hl 1 rfl) ?_
    refine lv_l2i hx hb dX5_cut_33 rfl ?_
    refine lv_i2b hx hb dX5_cut_34 rfl ?_
    refine lv_i2l hx hb dX5_cut_35 rfl ?_
    obtain rfl := Option.some.inj h
    exact rt_l hF hr hk (fun _ => 0) hW rfl dX5_cut_36
  have h := ifn q1 h
  by_cases q2 : (M.2.2.2.1 (4 * i0) 0) = 1
  · have h := ifp q2 h
    refine lv_tableIn (tgt := 37) hx hb dX5_cut_4 (by rw [q2]; decide) (by rw [q2]; decide) (by rw [q2]; rfl) (by decide) ?_
    refine lv_lload_n hx hb dX5_cut_37 rfl (lv_at hl 1 rfl) ?_
    refine lv_l2i hx hb dX5_cut_38 rfl ?_
    refine lv_i2s hx hb dX5_cut_39 rfl ?_
    refine lv_i2l hx hb dX5_cut_40 rfl ?_
    obtain rfl := Option.some.inj h
    exact rt_l hF hr hk (fun _ => 0) hW rfl dX5_cut_41
  have h := ifn q2 h
  by_cases q3 : (M.2.2.2.1 (4 * i0) 0) = 2
  · have h := ifp q3 h
    refine lv_tableIn (tgt := 42) hx hb dX5_cut_4 (by rw [q3]; decide) (by rw [q3]; decide) (by rw [q3]; rfl) (by decide) ?_
    refine lv_lload_n hx hb dX5_cut_42 rfl (lv_at hl 1 rfl) ?_
    refine lv_l2i hx hb dX5_cut_43 rfl ?_
    refine lv_i2l hx hb dX5_cut_44 rfl ?_
    obtain rfl := Option.some.inj h
    exact rt_l hF hr hk (fun _ => 0) hW rfl dX5_cut_45
  have h := ifn q3 h
  refine lv_tableOut (tgt := 46) hx hb dX5_cut_4 (by have := lv_neT (a := 0) q1 (by decide) ; have := lv_neT (a := 1) q2 (by decide) ; have := lv_neT (a := 2) q3 (by decide); omega) (by decide) ?_
  refine lv_lload_n hx hb dX5_cut_46 rfl (lv_at hl 1 rfl) ?_
  obtain rfl := Option.some.inj h
  exact rt_l hF hr hk (fun _ => 0) hW rfl dX5_cut_47
set_option maxRecDepth 100000 in
set_option maxHeartbeats 1000000 in
theorem c_X5_mix (l : Launch) (K : Kx) (a d : Nat → Nat) {M : Mem} {i0 : Nat} {x1 : Int64} {r0 : Int64} (hi0 : i0 < M.2.2.2.2.2 0) (h : f_X5_mix M i0 x1 = some r0) : CMl l yX5_mix cX5_mix 5 ({ frames := 1, cells := 0, slots := 0, locals := 22 } : Room) K [.ref (d (6 * i0)), .long x1] (wC K a d M) (fun _ => wC K a d M) r0 := by
  refine cs_l (by decide +kernel) (Nat.le_of_ble_eq_true rfl) ?_
  intro p e s m args below meth c A ls hF hr hk hnm hW hl
  have hx := hF.1
  have hb := hF.2.1
  have hl : lv_has ls 5 [(0, .ref (d (6 * i0))), (1, .long x1)] := hl
  obtain ⟨H, hH⟩ : ∃ z, z = s.heap := ⟨_, rfl⟩
  rw [← hH] at hW ⊢
  have J2 : ∀ (n2 : Nat) (x0 : Nat) (x1 : Int64) (x3 : Int32) (M : Mem) (H : Heap) (locs : List Loc) (ls : Array Slot), f_X5_mix_2 n2 x0 x1 x3 M = some r0 → Wd K A s (wC K a d M) H locs → lv_has ls 5 [(0, .ref (d (6 * x0))), (1, .long x1), (3, .int x3)] → W p l e ({ frames := 1, cells := 0, slots := 0, locals := 22 } : Room) s m args below meth c H locs 0 0 (EndL K A (fun _ => wC K a d M) r0 below args s ({ frames := 1, cells := 0, slots := 0, locals := 22 } : Room)) (F0 m 2 ls []) := by
    intro n2
    induction n2 with
    | zero => intro x0 x1 x3 M H locs ls h; exact absurd h (by simp [f_X5_mix_2])
    | succ n2 ih2 =>
      have J28 : ∀ (n28 : Nat) (x0 : Nat) (x1 : Int64) (x3 : Int32) (x4 : Int32) (M : Mem) (H : Heap) (locs : List Loc) (ls : Array Slot), f_X5_mix_28 (f_X5_mix_2 n2) n28 x0 x1 x3 x4 M = some r0 → Wd K A s (wC K a d M) H locs → lv_has ls 5 [(0, .ref (d (6 * x0))), (1, .long x1), (3, .int x3), (4, .int x4)] → W p l e ({ frames := 1, cells := 0, slots := 0, locals := 22 } : Room) s m args below meth c H locs 0 0 (EndL K A (fun _ => wC K a d M) r0 below args s ({ frames := 1, cells := 0, slots := 0, locals := 22 } : Room)) (F0 m 28 ls []) := by
        intro n28
        induction n28 with
        | zero => intro x0 x1 x3 x4 M H locs ls h; exact absurd h (by simp [f_X5_mix_28])
        | succ n28 ih28 =>
          intro x0 x1 x3 x4 M H locs ls h hW hl
          rw [f_X5_mix_28] at h
          refine lv_iload hx hb dX5_mix_28 (lv_at hl 3 rfl) ?_
          refine lv_aload_n hx hb dX5_mix_30 rfl (lv_at hl 0 rfl) ?_
          obtain ⟨hi4, h⟩ := cN_some h
          refine w_get hF hW (pR_0 K a d _ _ hi4) rfl iX5 1 (by decide) fl_X5_15 rfl dX5_mix_31 ?_
          refine lv_iload_n hx hb dX5_mix_34 rfl (lv_at hl 2 rfl) ?_
          obtain ⟨q5, h⟩ := ck_some h
          refine w_ild hF hW (pR_1 K a d _ _ hi4) q5 dX5_mix_35 ?_
          refine lv_icmp_ge (tgt := 59) hx hb dX5_mix_36 (by decide) (fun q6 => ?_) (fun q6 => ?_)
          · have h := ifp q6 h
            refine lv_iinc (v := (x3 + 1)) (lv' := [(3, .int (x3 + 1)), (0, .ref (d (6 * x0))), (1, .long x1), (4, .int x4)]) hx hb dX5_mix_59 hl (k := 2) rfl rfl (by decide) rfl (fun ls hl => ?_)
            refine lv_goto (tgt := 2) hx hb dX5_mix_62 (by decide) ?_
            exact ih2 x0 x1 (x3 + 1) _ _ _ _ h hW (lv_sub hl [1, 2, 0] rfl)
          · have h := ifn q6 h
            refine lv_ldc2 hx hb hF.2.2.2.1 (hF.2.2.1 _ kl_X5_40) dX5_mix_39 ?_
            refine lv_lload_n hx hb dX5_mix_42 rfl (lv_at hl 1 rfl) ?_
            refine lv_lmul hx hb dX5_mix_43 ?_
            refine lv_aload_n hx hb dX5_mix_44 rfl (lv_at hl 0 rfl) ?_
            refine lv_iload_n hx hb dX5_mix_45 rfl (lv_at hl 2 rfl) ?_
            refine lv_iload hx hb dX5_mix_46 (lv_at hl 3 rfl) ?_
            obtain ⟨r7, hc9, h⟩ := bq_some h
            refine cV_l (ci := 5) (rest := [.long (31 * x1)]) hF hW mw_X5_42 (c_X5_load l K a d hi4 hc9) ⟨Nat.le_of_ble_eq_true rfl, Nat.le_of_ble_eq_true rfl⟩ rfl rfl (pR_0 K a d _ _ hi4) rfl hl.1 rfl (Nat.le_of_ble_eq_true rfl) dX5_mix_48 ⟨Nat.le_of_ble_eq_true rfl, Nat.le_of_ble_eq_true rfl⟩ (fun _ H locs hW => ?_)
            refine lv_ladd hx hb dX5_mix_51 ?_
            refine lv_lstore_n (lv' := [(1, .long ((31 * x1) + r7)), (0, .ref (d (6 * x0))), (3, .int x3), (4, .int x4)]) hx hb dX5_mix_52 rfl hl (by decide) rfl (fun ls hl => ?_)
            refine lv_iinc (v := (x4 + 1)) (lv' := [(4, .int (x4 + 1)), (1, .long ((31 * x1) + r7)), (0, .ref (d (6 * x0))), (3, .int x3)]) hx hb dX5_mix_53 hl (k := 3) rfl rfl (by decide) rfl (fun ls hl => ?_)
            refine lv_goto (tgt := 28) hx hb dX5_mix_56 (by decide) ?_
            exact ih28 x0 ((31 * x1) + r7) x3 (x4 + 1) _ _ _ _ h hW (lv_sub hl [2, 1, 3, 0] rfl)
      intro x0 x1 x3 M H locs ls h hW hl
      rw [f_X5_mix_2] at h
      refine lv_iload_n hx hb dX5_mix_2 rfl (lv_at hl 2 rfl) ?_
      refine lv_aload_n hx hb dX5_mix_3 rfl (lv_at hl 0 rfl) ?_
      obtain ⟨hi1, h⟩ := cN_some h
      refine w_get hF hW (pR_0 K a d _ _ hi1) rfl iX5 1 (by decide) fl_X5_15 rfl dX5_mix_4 ?_
      refine w_alen (v := nI (M.2.2.2.2.2 (x0 + 2))) 0 hF hW (pR_1 K a d _ _ hi1) rfl rfl dX5_mix_7 ?_
      refine lv_icmp_ge (tgt := 65) hx hb dX5_mix_8 (by decide) (fun q2 => ?_) (fun q2 => ?_)
      · have h := ifp q2 h
        refine lv_lload_n hx hb dX5_mix_65 rfl (lv_at hl 1 rfl) ?_
        obtain rfl := Option.some.inj h
        exact rt_l hF hr hk (fun _ => 0) hW rfl dX5_mix_66
      · have h := ifn q2 h
        refine lv_ldc2 hx hb hF.2.2.2.1 (hF.2.2.1 _ kl_X5_40) dX5_mix_11 ?_
        refine lv_lload_n hx hb dX5_mix_14 rfl (lv_at hl 1 rfl) ?_
        refine lv_lmul hx hb dX5_mix_15 ?_
        refine lv_aload_n hx hb dX5_mix_16 rfl (lv_at hl 0 rfl) ?_
        refine w_get hF hW (pR_0 K a d _ _ hi1) rfl iX5 1 (by decide) fl_X5_15 rfl dX5_mix_17 ?_
        refine lv_iload_n hx hb dX5_mix_20 rfl (lv_at hl 2 rfl) ?_
        obtain ⟨q3, h⟩ := ck_some h
        refine w_ild hF hW (pR_1 K a d _ _ hi1) q3 dX5_mix_21 ?_
        refine lv_i2l hx hb dX5_mix_22 rfl ?_
        refine lv_ladd hx hb dX5_mix_23 ?_
        refine lv_lstore_n (lv' := [(1, .long ((31 * x1) + ((M.2.2.2.1 (4 * x0 + 1)) x3.toNatClampNeg).toInt64)), (0, .ref (d (6 * x0))), (3, .int x3)]) hx hb dX5_mix_24 rfl hl (by decide) rfl (fun ls hl => ?_)
        refine lv_iconst (v := 0) hx hb dX5_mix_25 (by decide) ?_
        refine lv_istore (lv' := [(4, .int 0), (1, .long ((31 * x1) + ((M.2.2.2.1 (4 * x0 + 1)) x3.toNatClampNeg).toInt64)), (0, .ref (d (6 * x0))), (3, .int x3)]) hx hb dX5_mix_26 hl (by decide) rfl (fun ls hl => ?_)
        exact J28 100000 x0 ((31 * x1) + ((M.2.2.2.1 (4 * x0 + 1)) x3.toNatClampNeg).toInt64) x3 0 _ _ _ _ h hW (lv_sub hl [2, 1, 3, 0] rfl)
  unfold f_X5_mix at h
  refine lv_iconst (v := 0) hx hb dX5_mix_0 (by decide) ?_
  refine lv_istore_n (lv' := [(3, .int 0), (0, .ref (d (6 * i0))), (1, .long x1)]) hx hb dX5_mix_1 rfl hl (by decide) rfl (fun ls hl => ?_)
  exact J2 100000 i0 x1 0 _ _ _ _ h hW (lv_sub hl [1, 2, 0] rfl)
set_option maxRecDepth 100000 in
set_option maxHeartbeats 1000000 in
theorem c_X7_take_kn (l : Launch) (K : Kx) (a d : Nat → Nat) {M M0 : Mem} {i0 : Nat} {x2 : Int32}  (hi0 : i0 < M.2.2.2.2.2 1) (h : f_X7_take_kn M i0 x2 = some M0) : CMv l yX7_take cX7_take 3 ({ frames := 1, cells := 0, slots := 0, locals := 60 } : Room) K [.ref (d (6 * i0 + 3)), .ref (a 27), .int x2] (wC K a d M) (fun _ => wC K a d M0) := by
  refine cs_v (by decide +kernel) (Nat.le_of_ble_eq_true rfl) ?_
  intro p e s m args below meth c A ls hF hr hk hnm hW hl
  have hx := hF.1
  have hb := hF.2.1
  have hl : lv_has ls 3 [(0, .ref (d (6 * i0 + 3))), (1, .ref (a 27)), (2, .int x2)] := hl
  obtain ⟨H, hH⟩ : ∃ z, z = s.heap := ⟨_, rfl⟩
  rw [← hH] at hW ⊢
  unfold f_X7_take_kn at h
  refine lv_aload_n hx hb dX7_take_0 rfl (lv_at hl 1 rfl) ?_
  refine g_X7_9_now hF hW dX7_take_1 ?_
  refine lv_iconst (v := 0) hx hb dX7_take_4 (by decide) ?_
  refine lv_aload_n hx hb dX7_take_5 rfl (lv_at hl 0 rfl) ?_
  refine w_get hF hW (pK_0 K a d _ _ hi0) rfl iX7 0 (by decide) fl_X7_9 rfl dX7_take_6 ?_
  refine lv_iconst (v := 0) hx hb dX7_take_9 (by decide) ?_
  refine lv_iload_n hx hb dX7_take_10 rfl (lv_at hl 2 rfl) ?_
  refine lv_bipush (v := 16) hx hb dX7_take_11 (by decide) ?_
  refine lv_imul hx hb dX7_take_13 ?_
  refine lv_bipush (v := 7) hx hb dX7_take_14 (by decide) ?_
  refine lv_imul hx hb dX7_take_16 ?_
  obtain ⟨q1, h⟩ := ca_some h
  refine w_cpyi (rest := []) hF hW al_X7_18 ac_n ac_s ac_i (pC_28 K a d _) (pK_1 K a d _ _ hi0) q1 (vK_1 K a d _ _ _ hi0) hl.1 (Nat.le_of_ble_eq_true rfl) (Nat.le_of_ble_eq_true rfl) dX7_take_17 (fun H locs hW => ?_)
  refine lv_aload_n hx hb dX7_take_20 rfl (lv_at hl 1 rfl) ?_
  refine g_X7_15_now hF hW dX7_take_21 ?_
  refine lv_iconst (v := 0) hx hb dX7_take_24 (by decide) ?_
  refine lv_aload_n hx hb dX7_take_25 rfl (lv_at hl 0 rfl) ?_
  refine w_get hF hW (pK_0 K a d _ _ hi0) rfl iX7 1 (by decide) fl_X7_15 rfl dX7_take_26 ?_
  refine lv_iconst (v := 0) hx hb dX7_take_29 (by decide) ?_
  refine lv_iload_n hx hb dX7_take_30 rfl (lv_at hl 2 rfl) ?_
  obtain ⟨q2, h⟩ := ca_some h
  refine w_cpyi (rest := []) hF hW al_X7_18 ac_n ac_s ac_i (pC_29 K a d _) (pK_2 K a d _ _ hi0) q2 (vK_2 K a d _ _ _ hi0) hl.1 (Nat.le_of_ble_eq_true rfl) (Nat.le_of_ble_eq_true rfl) dX7_take_31 (fun H locs hW => ?_)
  obtain rfl := Option.some.inj h
  exact rt_v hF hr hk (fun _ => 0) hW dX7_take_34
set_option maxRecDepth 100000 in
set_option maxHeartbeats 1000000 in
theorem c_X7_take_nk (l : Launch) (K : Kx) (a d : Nat → Nat) {M M0 : Mem} {i1 : Nat} {x2 : Int32}  (hi1 : i1 < M.2.2.2.2.2 1) (h : f_X7_take_nk M i1 x2 = some M0) : CMv l yX7_take cX7_take 3 ({ frames := 1, cells := 0, slots := 0, locals := 60 } : Room) K [.ref (a 27), .ref (d (6 * i1 + 3)), .int x2] (wC K a d M) (fun _ => wC K a d M0) := by
  refine cs_v (by decide +kernel) (Nat.le_of_ble_eq_true rfl) ?_
  intro p e s m args below meth c A ls hF hr hk hnm hW hl
  have hx := hF.1
  have hb := hF.2.1
  have hl : lv_has ls 3 [(0, .ref (a 27)), (1, .ref (d (6 * i1 + 3))), (2, .int x2)] := hl
  obtain ⟨H, hH⟩ : ∃ z, z = s.heap := ⟨_, rfl⟩
  rw [← hH] at hW ⊢
  unfold f_X7_take_nk at h
  refine lv_aload_n hx hb dX7_take_0 rfl (lv_at hl 1 rfl) ?_
  refine w_get hF hW (pK_0 K a d _ _ hi1) rfl iX7 0 (by decide) fl_X7_9 rfl dX7_take_1 ?_
  refine lv_iconst (v := 0) hx hb dX7_take_4 (by decide) ?_
  refine lv_aload_n hx hb dX7_take_5 rfl (lv_at hl 0 rfl) ?_
  refine g_X7_9_now hF hW dX7_take_6 ?_
  refine lv_iconst (v := 0) hx hb dX7_take_9 (by decide) ?_
  refine lv_iload_n hx hb dX7_take_10 rfl (lv_at hl 2 rfl) ?_
  refine lv_bipush (v := 16) hx hb dX7_take_11 (by decide) ?_
  refine lv_imul hx hb dX7_take_13 ?_
  refine lv_bipush (v := 7) hx hb dX7_take_14 (by decide) ?_
  refine lv_imul hx hb dX7_take_16 ?_
  obtain ⟨q1, h⟩ := ca_some h
  refine w_cpyi (rest := []) hF hW al_X7_18 ac_n ac_s ac_i (pK_1 K a d _ _ hi1) (pC_28 K a d _) q1 (vC_28 K a d _ _) hl.1 (Nat.le_of_ble_eq_true rfl) (Nat.le_of_ble_eq_true rfl) dX7_take_17 (fun H locs hW => ?_)
  refine lv_aload_n hx hb dX7_take_20 rfl (lv_at hl 1 rfl) ?_
  refine w_get hF hW (pK_0 K a d _ _ hi1) rfl iX7 1 (by decide) fl_X7_15 rfl dX7_take_21 ?_
  refine lv_iconst (v := 0) hx hb dX7_take_24 (by decide) ?_
  refine lv_aload_n hx hb dX7_take_25 rfl (lv_at hl 0 rfl) ?_
  refine g_X7_15_now hF hW dX7_take_26 ?_
  refine lv_iconst (v := 0) hx hb dX7_take_29 (by decide) ?_
  refine lv_iload_n hx hb dX7_take_30 rfl (lv_at hl 2 rfl) ?_
  obtain ⟨q2, h⟩ := ca_some h
  refine w_cpyi (rest := []) hF hW al_X7_18 ac_n ac_s ac_i (pK_2 K a d _ _ hi1) (pC_29 K a d _) q2 (vC_29 K a d _ _) hl.1 (Nat.le_of_ble_eq_true rfl) (Nat.le_of_ble_eq_true rfl) dX7_take_31 (fun H locs hW => ?_)
  obtain rfl := Option.some.inj h
  exact rt_v hF hr hk (fun _ => 0) hW dX7_take_34
set_option maxRecDepth 100000 in
set_option maxHeartbeats 1000000 in
theorem c_X3_takeBack (l : Launch) (K : Kx) (a d : Nat → Nat) {M M0 : Mem}   (h : f_X3_takeBack M = some M0) : CMv l yX3_takeBack cX3_takeBack 2 ({ frames := 2, cells := 0, slots := 0, locals := 82 } : Room) K [.ref (a 26)] (wC K a d M) (fun _ => wC K a d M0) := by
  refine cs_v (by decide +kernel) (Nat.le_of_ble_eq_true rfl) ?_
  intro p e s m args below meth c A ls hF hr hk hnm hW hl
  have hx := hF.1
  have hb := hF.2.1
  have hl : lv_has ls 2 [(0, .ref (a 26))] := hl
  obtain ⟨H, hH⟩ : ∃ z, z = s.heap := ⟨_, rfl⟩
  rw [← hH] at hW ⊢
  unfold f_X3_takeBack at h
  refine lv_aload_n hx hb dX3_takeBack_0 rfl (lv_at hl 0 rfl) ?_
  refine lv_dup hx hb dX3_takeBack_1 rfl ?_
  refine g_X3_29 hF hW dX3_takeBack_2 ?_
  refine lv_iconst (v := 1) hx hb dX3_takeBack_5 (by decide) ?_
  refine lv_isub hx hb dX3_takeBack_6 ?_
  refine s_X3_29 (x := ((M.1 109 0) - 1)) hF hW dX3_takeBack_7 (fun H locs hW => ?_)
  refine lv_aload_n hx hb dX3_takeBack_10 rfl (lv_at hl 0 rfl) ?_
  refine g_X3_21 hF hW dX3_takeBack_11 ?_
  refine lv_aload_n hx hb dX3_takeBack_14 rfl (lv_at hl 0 rfl) ?_
  refine g_X3_25 hF hW dX3_takeBack_15 ?_
  refine lv_aload_n hx hb dX3_takeBack_18 rfl (lv_at hl 0 rfl) ?_
  refine g_X3_29 hF hW dX3_takeBack_19 ?_
  refine lv_iadd hx hb dX3_takeBack_22 ?_
  refine lv_bipush (v := 20) hx hb dX3_takeBack_23 (by decide) ?_
  obtain ⟨q1, h⟩ := nzI_some h
  refine lv_irem hx hb dX3_takeBack_25 q1 ?_
  obtain ⟨q2, h⟩ := ck_some h
  refine w_qld2 (o := ((sI M 109 0 ((M.1 109 0) - 1)).2.2.1 33 ((((sI M 109 0 ((M.1 109 0) - 1)).1 108 0) + ((sI M 109 0 ((M.1 109 0) - 1)).1 109 0)) - (((sI M 109 0 ((M.1 109 0) - 1)).1 108 0) + ((sI M 109 0 ((M.1 109 0) - 1)).1 109 0)) / 20 * 20).toNatClampNeg)) (g := fun i => d (6 * i + 3)) 4 hF hW (pC_33 K a d _) rfl q2 rfl dX3_takeBack_26 (fun q4 => ?_) (fun j3 q4 => ?_)
  · have h := oq_none q4 h
    refine lv_astore_nN (lv' := [(1, .null), (0, .ref (a 26))]) hx hb dX3_takeBack_27 rfl hl (by decide) rfl (fun ls hl => ?_)
    refine lv_aload_nN hx hb dX3_takeBack_28 rfl (lv_at hl 0 rfl) ?_
    refine lv_ifnullN (tgt := 47) hx hb dX3_takeBack_29 (by decide) ?_
    obtain rfl := Option.some.inj h
    exact rt_v hF hr hk (fun _ => 0) hW dX3_takeBack_47
  · have h := oq_some q4 h
    refine lv_astore_n (lv' := [(1, .ref (d (6 * j3 + 3))), (0, .ref (a 26))]) hx hb dX3_takeBack_27 rfl hl (by decide) rfl (fun ls hl => ?_)
    refine lv_aload_n hx hb dX3_takeBack_28 rfl (lv_at hl 0 rfl) ?_
    refine lv_ifnull hx hb dX3_takeBack_29 ?_
    refine lv_aload_n hx hb dX3_takeBack_32 rfl (lv_at hl 1 rfl) ?_
    refine g_X3_12 hF hW dX3_takeBack_33 ?_
    refine lv_aload_n hx hb dX3_takeBack_36 rfl (lv_at hl 0 rfl) ?_
    refine lv_aload_n hx hb dX3_takeBack_37 rfl (lv_at hl 1 rfl) ?_
    refine g_X3_32 hF hW dX3_takeBack_38 ?_
    refine g_X3_36 hF hW dX3_takeBack_41 ?_
    obtain ⟨hi5, h⟩ := cN_some h
    obtain ⟨M7, hc8, h⟩ := bm_some h
    refine cV_v (ci := 7) (q0 := 27) (rest := []) hF hW mw_X3_62 (c_X7_take_nk l K a d hi5 hc8) ⟨Nat.le_of_ble_eq_true rfl, Nat.le_of_ble_eq_true rfl⟩ rfl rfl (pC_27 K a d _) rfl hl.1 rfl (Nat.le_of_ble_eq_true rfl) dX3_takeBack_44 ⟨Nat.le_of_ble_eq_true rfl, Nat.le_of_ble_eq_true rfl⟩ (fun _ H locs hW => ?_)
    obtain rfl := Option.some.inj h
    exact rt_v hF hr hk (fun _ => 0) hW dX3_takeBack_47
set_option maxRecDepth 100000 in
set_option maxHeartbeats 1000000 in
theorem c_X11_undo (l : Launch) (K : Kx) (a d : Nat → Nat) {M M0 : Mem}  {r0 : Int32} (h : f_X11_undo M = some (r0, M0)) : CMi l yX11_undo cX11_undo 1 (some .int) ({ frames := 3, cells := 0, slots := 0, locals := 103 } : Room) K [.ref (a 0)] (wC K a d M) (fun _ => wC K a d M0) r0 := by
  refine cs_i (by decide +kernel) (Nat.le_of_ble_eq_true rfl) ?_
  intro p e s m args below meth c A ls hF hr hk hnm hW hl
  have hx := hF.1
  have hb := hF.2.1
  have hl : lv_has ls 1 [(0, .ref (a 0))] := hl
  obtain ⟨H, hH⟩ : ∃ z, z = s.heap := ⟨_, rfl⟩
  rw [← hH] at hW ⊢
  unfold f_X11_undo at h
  refine lv_aload_n hx hb dX11_undo_0 rfl (lv_at hl 0 rfl) ?_
  refine g_X11_45 hF hW dX11_undo_1 ?_
  refine g_X11_350 hF hW dX11_undo_4 ?_
  refine lv_if_gt (tgt := 13) hx hb dX11_undo_7 (by decide) (fun q1 => ?_) (fun q1 => ?_)
  · have h := ifp q1 h
    refine lv_aload_n hx hb dX11_undo_13 rfl (lv_at hl 0 rfl) ?_
    refine g_X11_45 hF hW dX11_undo_14 ?_
    obtain ⟨M3, hc4, h⟩ := bm_some h
    refine cV_v (ci := 3) (q0 := 26) (rest := []) hF hW mw_X11_353 (c_X3_takeBack l K a d hc4) ⟨Nat.le_of_ble_eq_true rfl, Nat.le_of_ble_eq_true rfl⟩ rfl rfl (pC_26 K a d _) rfl hl.1 rfl (Nat.le_of_ble_eq_true rfl) dX11_undo_17 ⟨Nat.le_of_ble_eq_true rfl, Nat.le_of_ble_eq_true rfl⟩ (fun _ H locs hW => ?_)
    refine lv_aload_n hx hb dX11_undo_20 rfl (lv_at hl 0 rfl) ?_
    obtain ⟨M6, hc7, h⟩ := bm_some h
    refine cV_v (ci := 11) (q0 := 0) (rest := []) hF hW mw_X11_356 (c_X11_ordersChanged l K a d hc7) ⟨Nat.le_of_ble_eq_true rfl, Nat.le_of_ble_eq_true rfl⟩ rfl rfl (pC_0 K a d _) rfl hl.1 rfl (Nat.le_of_ble_eq_true rfl) dX11_undo_21 ⟨Nat.le_of_ble_eq_true rfl, Nat.le_of_ble_eq_true rfl⟩ (fun _ H locs hW => ?_)
    refine lv_aload_n hx hb dX11_undo_24 rfl (lv_at hl 0 rfl) ?_
    refine g_X11_45 hF hW dX11_undo_25 ?_
    refine g_X11_350 hF hW dX11_undo_28 ?_
    obtain ⟨rfl, rfl⟩ := Prod.mk.inj (Option.some.inj h)
    exact rt_i hF hr hk rfl (fun _ => 0) hW rfl dX11_undo_31
  · have h := ifn q1 h
    refine lv_bipush (v := (-4)) hx hb dX11_undo_10 (by decide) ?_
    obtain ⟨rfl, rfl⟩ := Prod.mk.inj (Option.some.inj h)
    exact rt_i hF hr hk rfl (fun _ => 0) hW rfl dX11_undo_12
set_option maxRecDepth 100000 in
set_option maxHeartbeats 1000000 in
theorem c_X11_rackOf (l : Launch) (K : Kx) (a d : Nat → Nat) {M : Mem} {x1 : Int32} {r0 : Option Nat} (h : f_X11_rackOf M x1 = some r0) : CMq l yX11_rackOf cX11_rackOf 2 (some (.object "LoopLoom$Rack")) ({ frames := 1, cells := 0, slots := 0, locals := 22 } : Room) K [.ref (a 0), .int x1] (wC K a d M) (fun _ => wC K a d M) (r0.map (fun i => d (6 * i))) := by
  refine cs_q (by decide +kernel) (Nat.le_of_ble_eq_true rfl) ?_
  intro p e s m args below meth c A ls hF hr hk hnm hW hl
  have hx := hF.1
  have hb := hF.2.1
  have hl : lv_has ls 2 [(0, .ref (a 0)), (1, .int x1)] := hl
  obtain ⟨H, hH⟩ : ∃ z, z = s.heap := ⟨_, rfl⟩
  rw [← hH] at hW ⊢
  unfold f_X11_rackOf at h
  refine lv_iload_n hx hb dX11_rackOf_0 rfl (lv_at hl 1 rfl) ?_
  refine lv_iconst (v := 0) hx hb dX11_rackOf_1 (by decide) ?_
  refine lv_aload_n hx hb dX11_rackOf_2 rfl (lv_at hl 0 rfl) ?_
  refine g_X11_36 hF hW dX11_rackOf_3 ?_
  refine lv_iconst (v := 1) hx hb dX11_rackOf_6 (by decide) ?_
  refine lv_isub hx hb dX11_rackOf_7 ?_
  obtain ⟨r1, hc3, h⟩ := bq_some h
  refine cS_i (rest := []) hF hW mw_X11_113 (c_X11_within l K hc3) ⟨Nat.le_of_ble_eq_true rfl, Nat.le_of_ble_eq_true rfl⟩ rfl hl.1 rfl (Nat.le_of_ble_eq_true rfl) dX11_rackOf_8 ⟨Nat.le_of_ble_eq_true rfl, Nat.le_of_ble_eq_true rfl⟩ (fun _ H locs hW => ?_)
  refine lz_eq (tgt := 23) hx hb dX11_rackOf_11 (by decide) (fun q4 => ?_) (fun q4 => ?_)
  · have h := ifn q4 h
    refine lv_null hx hb dX11_rackOf_23 ?_
    obtain rfl := Option.some.inj h
    exact rt_q (r0 := Option.map (fun i => d (6 * i)) none) hF hr hk (fun _ => 0) hW dX11_rackOf_24
  · have h := ifp q4 h
    refine lv_aload_n hx hb dX11_rackOf_14 rfl (lv_at hl 0 rfl) ?_
    refine g_X11_32 hF hW dX11_rackOf_15 ?_
    refine lv_iload_n hx hb dX11_rackOf_18 rfl (lv_at hl 1 rfl) ?_
    obtain ⟨q5, h⟩ := ck_some h
    refine w_qld2 (o := (M.2.2.1 25 x1.toNatClampNeg)) (g := fun i => d (6 * i)) 3 hF hW (pC_25 K a d _) rfl q5 rfl dX11_rackOf_19 (fun q7 => ?_) (fun j6 q7 => ?_)
    · have h := oq_none q7 h
      refine lv_goto (tgt := 24) hx hb dX11_rackOf_20 (by decide) ?_
      obtain rfl := Option.some.inj h
      exact rt_q (r0 := Option.map (fun i => d (6 * i)) none) hF hr hk (fun _ => 0) hW dX11_rackOf_24
    · have h := oq_some q7 h
      refine lv_goto (tgt := 24) hx hb dX11_rackOf_20 (by decide) ?_
      obtain rfl := Option.some.inj h
      exact rt_q (r0 := Option.map (fun i => d (6 * i)) (some j6)) hF hr hk (fun _ => 0) hW dX11_rackOf_24
set_option maxRecDepth 100000 in
set_option maxHeartbeats 1000000 in
theorem c_X11_lackAt (l : Launch) (K : Kx) (a d : Nat → Nat) {M : Mem} {x1 : Int32} {x2 : Int32} {r0 : Int32} (h : f_X11_lackAt M x1 x2 = some r0) : CMi l yX11_lackAt cX11_lackAt 5 (some .int) ({ frames := 2, cells := 0, slots := 0, locals := 47 } : Room) K [.ref (a 0), .int x1, .int x2] (wC K a d M) (fun _ => wC K a d M) r0 := by
  refine cs_i (by decide +kernel) (Nat.le_of_ble_eq_true rfl) ?_
  intro p e s m args below meth c A ls hF hr hk hnm hW hl
  have hx := hF.1
  have hb := hF.2.1
  have hl : lv_has ls 5 [(0, .ref (a 0)), (1, .int x1), (2, .int x2)] := hl
  obtain ⟨H, hH⟩ : ∃ z, z = s.heap := ⟨_, rfl⟩
  rw [← hH] at hW ⊢
  unfold f_X11_lackAt at h
  refine lv_aload_n hx hb dX11_lackAt_0 rfl (lv_at hl 0 rfl) ?_
  refine lv_aload_n hx hb dX11_lackAt_1 rfl (lv_at hl 0 rfl) ?_
  refine g_X11_63 hF hW dX11_lackAt_2 ?_
  refine lv_iload_n hx hb dX11_lackAt_5 rfl (lv_at hl 1 rfl) ?_
  refine lv_iload_n hx hb dX11_lackAt_6 rfl (lv_at hl 2 rfl) ?_
  obtain ⟨r1, hc3, h⟩ := bq_some h
  refine cV_i (ci := 9) (q0 := 38) (rest := [.ref (a 0)]) hF hW mw_X11_463 (c_X9_arrayAt l K a d hc3) ⟨Nat.le_of_ble_eq_true rfl, Nat.le_of_ble_eq_true rfl⟩ rfl rfl (pC_38 K a d _) rfl hl.1 rfl (Nat.le_of_ble_eq_true rfl) dX11_lackAt_7 ⟨Nat.le_of_ble_eq_true rfl, Nat.le_of_ble_eq_true rfl⟩ (fun _ H locs hW => ?_)
  obtain ⟨r4, hc6, h⟩ := bq_some h
  refine cV_q (ci := 11) (q0 := 0) (rest := []) hF hW mw_X11_155 (c_X11_rackOf l K a d hc6) ⟨Nat.le_of_ble_eq_true rfl, Nat.le_of_ble_eq_true rfl⟩ rfl rfl (pC_0 K a d _) rfl hl.1 rfl (Nat.le_of_ble_eq_true rfl) dX11_lackAt_10 ⟨Nat.le_of_ble_eq_true rfl, Nat.le_of_ble_eq_true rfl⟩ (fun _ H locs hW => ?_)
  refine q_split (fun q8 => ?_) (fun j7 q8 => ?_)
  · have h := oq_none q8 h
    refine lv_astore_nN (lv' := [(3, .null), (0, .ref (a 0)), (1, .int x1), (2, .int x2)]) hx hb dX11_lackAt_13 rfl hl (by decide) rfl (fun ls hl => ?_)
    refine lv_aload_nN hx hb dX11_lackAt_14 rfl (lv_at hl 0 rfl) ?_
    refine lv_ifnonnullN hx hb dX11_lackAt_15 ?_
    refine lv_iconst (v := 0) hx hb dX11_lackAt_18 (by decide) ?_
    obtain rfl := Option.some.inj h
    exact rt_i hF hr hk rfl (fun _ => 0) hW rfl dX11_lackAt_19
  · have h := oq_some q8 h
    refine lv_astore_n (lv' := [(3, .ref (d (6 * j7))), (0, .ref (a 0)), (1, .int x1), (2, .int x2)]) hx hb dX11_lackAt_13 rfl hl (by decide) rfl (fun ls hl => ?_)
    refine lv_aload_n hx hb dX11_lackAt_14 rfl (lv_at hl 0 rfl) ?_
    refine lv_ifnonnull (tgt := 20) hx hb dX11_lackAt_15 (by decide) ?_
    refine lv_iload_n hx hb dX11_lackAt_20 rfl (lv_at hl 2 rfl) ?_
    refine lv_iconst (v := 3) hx hb dX11_lackAt_21 (by decide) ?_
    refine lv_imul hx hb dX11_lackAt_22 ?_
    refine lv_iload_n hx hb dX11_lackAt_23 rfl (lv_at hl 3 rfl) ?_
    refine lv_iadd hx hb dX11_lackAt_24 ?_
    refine lv_istore (lv' := [(4, .int ((x1 * 3) + x2)), (3, .ref (d (6 * j7))), (0, .ref (a 0)), (1, .int x1), (2, .int x2)]) hx hb dX11_lackAt_25 hl (by decide) rfl (fun ls hl => ?_)
    refine lv_aload_n hx hb dX11_lackAt_27 rfl (lv_at hl 1 rfl) ?_
    refine lv_aload_n hx hb dX11_lackAt_28 rfl (lv_at hl 2 rfl) ?_
    refine g_X11_63 hF hW dX11_lackAt_29 ?_
    refine g_X11_466 hF hW dX11_lackAt_32 ?_
    refine lv_iload hx hb dX11_lackAt_35 (lv_at hl 0 rfl) ?_
    obtain ⟨q9, h⟩ := ck_some h
    refine w_lld hF hW (pC_39 K a d _) q9 dX11_lackAt_37 ?_
    refine lv_aload_n hx hb dX11_lackAt_38 rfl (lv_at hl 2 rfl) ?_
    refine g_X11_63 hF hW dX11_lackAt_39 ?_
    refine g_X11_469 hF hW dX11_lackAt_42 ?_
    refine lv_iload hx hb dX11_lackAt_45 (lv_at hl 0 rfl) ?_
    obtain ⟨q10, h⟩ := ck_some h
    refine w_lld hF hW (pC_40 K a d _) q10 dX11_lackAt_47 ?_
    obtain ⟨hi11, h⟩ := cN_some h
    obtain ⟨r12, hc14, h⟩ := bq_some h
    refine cV_i (ci := 5) (rest := []) hF hW mw_X11_232 (c_X5_lack l K a d hi11 hc14) ⟨Nat.le_of_ble_eq_true rfl, Nat.le_of_ble_eq_true rfl⟩ rfl rfl (pR_0 K a d _ _ hi11) rfl hl.1 rfl (Nat.le_of_ble_eq_true rfl) dX11_lackAt_48 ⟨Nat.le_of_ble_eq_true rfl, Nat.le_of_ble_eq_true rfl⟩ (fun _ H locs hW => ?_)
    obtain rfl := Option.some.inj h
    exact rt_i hF hr hk rfl (fun _ => 0) hW rfl dX11_lackAt_51
set_option maxRecDepth 100000 in
set_option maxHeartbeats 1000000 in
theorem c_X11_loadAt (l : Launch) (K : Kx) (a d : Nat → Nat) {M : Mem} {x1 : Int32} {x2 : Int32} {r0 : Int64} (h : f_X11_loadAt M x1 x2 = some r0) : CMl l yX11_loadAt cX11_loadAt 5 ({ frames := 2, cells := 0, slots := 0, locals := 43 } : Room) K [.ref (a 0), .int x1, .int x2] (wC K a d M) (fun _ => wC K a d M) r0 := by
  refine cs_l (by decide +kernel) (Nat.le_of_ble_eq_true rfl) ?_
  intro p e s m args below meth c A ls hF hr hk hnm hW hl
  have hx := hF.1
  have hb := hF.2.1
  have hl : lv_has ls 5 [(0, .ref (a 0)), (1, .int x1), (2, .int x2)] := hl
  obtain ⟨H, hH⟩ : ∃ z, z = s.heap := ⟨_, rfl⟩
  rw [← hH] at hW ⊢
  unfold f_X11_loadAt at h
  refine lv_aload_n hx hb dX11_loadAt_0 rfl (lv_at hl 0 rfl) ?_
  refine lv_aload_n hx hb dX11_loadAt_1 rfl (lv_at hl 0 rfl) ?_
  refine g_X11_63 hF hW dX11_loadAt_2 ?_
  refine lv_iload_n hx hb dX11_loadAt_5 rfl (lv_at hl 1 rfl) ?_
  refine lv_iload_n hx hb dX11_loadAt_6 rfl (lv_at hl 2 rfl) ?_
  obtain ⟨r1, hc3, h⟩ := bq_some h
  refine cV_i (ci := 9) (q0 := 38) (rest := [.ref (a 0)]) hF hW mw_X11_463 (c_X9_arrayAt l K a d hc3) ⟨Nat.le_of_ble_eq_true rfl, Nat.le_of_ble_eq_true rfl⟩ rfl rfl (pC_38 K a d _) rfl hl.1 rfl (Nat.le_of_ble_eq_true rfl) dX11_loadAt_7 ⟨Nat.le_of_ble_eq_true rfl, Nat.le_of_ble_eq_true rfl⟩ (fun _ H locs hW => ?_)
  obtain ⟨r4, hc6, h⟩ := bq_some h
  refine cV_q (ci := 11) (q0 := 0) (rest := []) hF hW mw_X11_155 (c_X11_rackOf l K a d hc6) ⟨Nat.le_of_ble_eq_true rfl, Nat.le_of_ble_eq_true rfl⟩ rfl rfl (pC_0 K a d _) rfl hl.1 rfl (Nat.le_of_ble_eq_true rfl) dX11_loadAt_10 ⟨Nat.le_of_ble_eq_true rfl, Nat.le_of_ble_eq_true rfl⟩ (fun _ H locs hW => ?_)
  refine q_split (fun q8 => ?_) (fun j7 q8 => ?_)
  · have h := oq_none q8 h
    refine lv_astore_nN (lv' := [(3, .null), (0, .ref (a 0)), (1, .int x1), (2, .int x2)]) hx hb dX11_loadAt_13 rfl hl (by decide) rfl (fun ls hl => ?_)
    refine lv_aload_nN hx hb dX11_loadAt_14 rfl (lv_at hl 0 rfl) ?_
    refine lv_ifnonnullN hx hb dX11_loadAt_15 ?_
    refine lv_lconst (v := 0) hx hb dX11_loadAt_18 (by decide) ?_
    obtain rfl := Option.some.inj h
    exact rt_l hF hr hk (fun _ => 0) hW rfl dX11_loadAt_19
  · have h := oq_some q8 h
    refine lv_astore_n (lv' := [(3, .ref (d (6 * j7))), (0, .ref (a 0)), (1, .int x1), (2, .int x2)]) hx hb dX11_loadAt_13 rfl hl (by decide) rfl (fun ls hl => ?_)
    refine lv_aload_n hx hb dX11_loadAt_14 rfl (lv_at hl 0 rfl) ?_
    refine lv_ifnonnull (tgt := 20) hx hb dX11_loadAt_15 (by decide) ?_
    refine lv_iload_n hx hb dX11_loadAt_20 rfl (lv_at hl 2 rfl) ?_
    refine lv_iconst (v := 3) hx hb dX11_loadAt_21 (by decide) ?_
    refine lv_imul hx hb dX11_loadAt_22 ?_
    refine lv_iload_n hx hb dX11_loadAt_23 rfl (lv_at hl 3 rfl) ?_
    refine lv_iadd hx hb dX11_loadAt_24 ?_
    refine lv_istore (lv' := [(4, .int ((x1 * 3) + x2)), (3, .ref (d (6 * j7))), (0, .ref (a 0)), (1, .int x1), (2, .int x2)]) hx hb dX11_loadAt_25 hl (by decide) rfl (fun ls hl => ?_)
    refine lv_aload_n hx hb dX11_loadAt_27 rfl (lv_at hl 1 rfl) ?_
    refine lv_aload_n hx hb dX11_loadAt_28 rfl (lv_at hl 2 rfl) ?_
    refine g_X11_63 hF hW dX11_loadAt_29 ?_
    refine g_X11_466 hF hW dX11_loadAt_32 ?_
    refine lv_iload hx hb dX11_loadAt_35 (lv_at hl 0 rfl) ?_
    obtain ⟨q9, h⟩ := ck_some h
    refine w_lld hF hW (pC_39 K a d _) q9 dX11_loadAt_37 ?_
    refine lv_l2i hx hb dX11_loadAt_38 rfl ?_
    refine lv_aload_n hx hb dX11_loadAt_39 rfl (lv_at hl 2 rfl) ?_
    refine g_X11_63 hF hW dX11_loadAt_40 ?_
    refine g_X11_469 hF hW dX11_loadAt_43 ?_
    refine lv_iload hx hb dX11_loadAt_46 (lv_at hl 0 rfl) ?_
    obtain ⟨q10, h⟩ := ck_some h
    refine w_lld hF hW (pC_40 K a d _) q10 dX11_loadAt_48 ?_
    refine lv_l2i hx hb dX11_loadAt_49 rfl ?_
    obtain ⟨hi11, h⟩ := cN_some h
    obtain ⟨r12, hc14, h⟩ := bq_some h
    refine cV_l (ci := 5) (rest := []) hF hW mw_X11_240 (c_X5_load l K a d hi11 hc14) ⟨Nat.le_of_ble_eq_true rfl, Nat.le_of_ble_eq_true rfl⟩ rfl rfl (pR_0 K a d _ _ hi11) rfl hl.1 rfl (Nat.le_of_ble_eq_true rfl) dX11_loadAt_50 ⟨Nat.le_of_ble_eq_true rfl, Nat.le_of_ble_eq_true rfl⟩ (fun _ H locs hW => ?_)
    obtain rfl := Option.some.inj h
    exact rt_l hF hr hk (fun _ => 0) hW rfl dX11_loadAt_53
set_option maxRecDepth 100000 in
set_option maxHeartbeats 1000000 in
theorem c_X5_store (l : Launch) (K : Kx) (a d : Nat → Nat) {M M0 : Mem} {i0 : Nat} {x1 : Int32} {x2 : Int32} {x3 : Int64}  (hi0 : i0 < M.2.2.2.2.2 0) (h : f_X5_store M i0 x1 x2 x3 = some M0) : CMv l yX5_store cX5_store 5 ({ frames := 1, cells := 0, slots := 0, locals := 22 } : Room) K [.ref (d (6 * i0)), .int x1, .int x2, .long x3] (wC K a d M) (fun _ => wC K a d M0) := by
  refine cs_v (by decide +kernel) (Nat.le_of_ble_eq_true rfl) ?_
  intro p e s m args below meth c A ls hF hr hk hnm hW hl
  have hx := hF.1
  have hb := hF.2.1
  have hl : lv_has ls 5 [(0, .ref (d (6 * i0))), (1, .int x1), (2, .int x2), (3, .long x3)] := hl
  obtain ⟨H, hH⟩ : ∃ z, z = s.heap := ⟨_, rfl⟩
  rw [← hH] at hW ⊢
  unfold f_X5_store at h
  refine lv_aload_n hx hb dX5_store_0 rfl (lv_at hl 0 rfl) ?_
  refine w_get hF hW (pR_0 K a d _ _ hi0) rfl iX5 2 (by decide) fl_X5_19 rfl dX5_store_1 ?_
  refine lv_iload_n hx hb dX5_store_4 rfl (lv_at hl 1 rfl) ?_
  refine lv_bipush (v := 20) hx hb dX5_store_5 (by decide) ?_
  refine lv_imul hx hb dX5_store_7 ?_
  refine lv_iload_n hx hb dX5_store_8 rfl (lv_at hl 2 rfl) ?_
  refine lv_iadd hx hb dX5_store_9 ?_
  refine lv_aload_n hx hb dX5_store_10 rfl (lv_at hl 0 rfl) ?_
  refine lv_lload_n hx hb dX5_store_11 rfl (lv_at hl 3 rfl) ?_
  obtain ⟨r1, hc3, h⟩ := bq_some h
  refine cV_l (ci := 5) (rest := [.int ((x1 * 20) + x2), .ref (d (6 * i0 + 2))]) hF hW mw_X5_36 (c_X5_cut l K a d hi0 hc3) ⟨Nat.le_of_ble_eq_true rfl, Nat.le_of_ble_eq_true rfl⟩ rfl rfl (pR_0 K a d _ _ hi0) rfl hl.1 rfl (Nat.le_of_ble_eq_true rfl) dX5_store_12 ⟨Nat.le_of_ble_eq_true rfl, Nat.le_of_ble_eq_true rfl⟩ (fun _ H locs hW => ?_)
  obtain ⟨q4, h⟩ := ck_some h
  refine w_lst hF hW (pR_2 K a d _ _ hi0) q4 (uR_2 K a d _ _ _ _ hi0) dX5_store_15 (fun H locs hW => ?_)
  obtain rfl := Option.some.inj h
  exact rt_v hF hr hk (fun _ => 0) hW dX5_store_16
set_option maxRecDepth 100000 in
set_option maxHeartbeats 1000000 in
theorem c_X11_aim (l : Launch) (K : Kx) (a d : Nat → Nat) {M M0 : Mem} {x1 : Int32} {x2 : Int32} {x3 : Int32} {x4 : Int32} {x5 : Int32} {r0 : Int32} (h : f_X11_aim M x1 x2 x3 x4 x5 = some (r0, M0)) : CMi l yX11_aim cX11_aim 7 (some .int) ({ frames := 2, cells := 0, slots := 0, locals := 45 } : Room) K [.ref (a 0), .int x1, .int x2, .int x3, .int x4, .int x5] (wC K a d M) (fun _ => wC K a d M0) r0 := by
  refine cs_i (by decide +kernel) (Nat.le_of_ble_eq_true rfl) ?_
  intro p e s m args below meth c A ls hF hr hk hnm hW hl
  have hx := hF.1
  have hb := hF.2.1
  have hl : lv_has ls 7 [(0, .ref (a 0)), (1, .int x1), (2, .int x2), (3, .int x3), (4, .int x4), (5, .int x5)] := hl
  obtain ⟨H, hH⟩ : ∃ z, z = s.heap := ⟨_, rfl⟩
  rw [← hH] at hW ⊢
  unfold f_X11_aim at h
  refine lv_aload_n hx hb dX11_aim_0 rfl (lv_at hl 0 rfl) ?_
  refine g_X11_19 hF hW dX11_aim_1 ?_
  refine lv_iload_n hx hb dX11_aim_4 rfl (lv_at hl 1 rfl) ?_
  obtain ⟨r1, hc3, h⟩ := bq_some h
  refine cV_i (ci := 2) (q0 := 5) (rest := []) hF hW mw_X11_152 (c_X2_known l K a d hc3) ⟨Nat.le_of_ble_eq_true rfl, Nat.le_of_ble_eq_true rfl⟩ rfl rfl (pC_5 K a d _) rfl hl.1 rfl (Nat.le_of_ble_eq_true rfl) dX11_aim_5 ⟨Nat.le_of_ble_eq_true rfl, Nat.le_of_ble_eq_true rfl⟩ (fun _ H locs hW => ?_)
  refine lz_eq (tgt := 28) hx hb dX11_aim_8 (by decide) (fun q4 => ?_) (fun q4 => ?_)
  · have h := ifn q4 h
    refine lv_iconst (v := (-1)) hx hb dX11_aim_28 (by decide) ?_
    obtain ⟨rfl, rfl⟩ := Prod.mk.inj (Option.some.inj h)
    exact rt_i hF hr hk rfl (fun _ => 0) hW rfl dX11_aim_29
  · have h := ifp q4 h
    refine lv_iload_n hx hb dX11_aim_11 rfl (lv_at hl 2 rfl) ?_
    refine lv_iconst (v := 0) hx hb dX11_aim_12 (by decide) ?_
    refine lv_iconst (v := 2) hx hb dX11_aim_13 (by decide) ?_
    obtain ⟨r5, hc7, h⟩ := bq_some h
    refine cS_i (rest := []) hF hW mw_X11_113 (c_X11_within l K hc7) ⟨Nat.le_of_ble_eq_true rfl, Nat.le_of_ble_eq_true rfl⟩ rfl hl.1 rfl (Nat.le_of_ble_eq_true rfl) dX11_aim_14 ⟨Nat.le_of_ble_eq_true rfl, Nat.le_of_ble_eq_true rfl⟩ (fun _ H locs hW => ?_)
    refine lz_eq (tgt := 28) hx hb dX11_aim_17 (by decide) (fun q8 => ?_) (fun q8 => ?_)
    · have h := ifn q8 h
      refine lv_iconst (v := (-1)) hx hb dX11_aim_28 (by decide) ?_
      obtain ⟨rfl, rfl⟩ := Prod.mk.inj (Option.some.inj h)
      exact rt_i hF hr hk rfl (fun _ => 0) hW rfl dX11_aim_29
    · have h := ifp q8 h
      refine lv_aload_n hx hb dX11_aim_20 rfl (lv_at hl 0 rfl) ?_
      refine lv_iload_n hx hb dX11_aim_21 rfl (lv_at hl 3 rfl) ?_
      obtain ⟨r9, hc11, h⟩ := bq_some h
      refine cV_q (ci := 11) (q0 := 0) (rest := []) hF hW mw_X11_155 (c_X11_rackOf l K a d hc11) ⟨Nat.le_of_ble_eq_true rfl, Nat.le_of_ble_eq_true rfl⟩ rfl rfl (pC_0 K a d _) rfl hl.1 rfl (Nat.le_of_ble_eq_true rfl) dX11_aim_22 ⟨Nat.le_of_ble_eq_true rfl, Nat.le_of_ble_eq_true rfl⟩ (fun _ H locs hW => ?_)
      refine q_split (fun q13 => ?_) (fun j12 q13 => ?_)
      · have h := oq_none q13 h
        refine lv_ifnonnullN hx hb dX11_aim_25 ?_
        refine lv_iconst (v := (-1)) hx hb dX11_aim_28 (by decide) ?_
        obtain ⟨rfl, rfl⟩ := Prod.mk.inj (Option.some.inj h)
        exact rt_i hF hr hk rfl (fun _ => 0) hW rfl dX11_aim_29
      · have h := oq_some q13 h
        refine lv_ifnonnull (tgt := 30) hx hb dX11_aim_25 (by decide) ?_
        refine lv_aload_n hx hb dX11_aim_30 rfl (lv_at hl 0 rfl) ?_
        refine g_X11_10 hF hW dX11_aim_31 ?_
        refine lv_iload hx hb dX11_aim_34 (lv_at hl 4 rfl) ?_
        obtain ⟨r14, hc16, h⟩ := bq_some h
        refine cV_i (ci := 8) (q0 := 1) (rest := []) hF hW mw_X11_159 (c_X8_known l K a d hc16) ⟨Nat.le_of_ble_eq_true rfl, Nat.le_of_ble_eq_true rfl⟩ rfl rfl (pC_1 K a d _) rfl hl.1 rfl (Nat.le_of_ble_eq_true rfl) dX11_aim_36 ⟨Nat.le_of_ble_eq_true rfl, Nat.le_of_ble_eq_true rfl⟩ (fun _ H locs hW => ?_)
        refine lz_eq (tgt := 54) hx hb dX11_aim_39 (by decide) (fun q17 => ?_) (fun q17 => ?_)
        · have h := ifn q17 h
          refine lv_iconst (v := (-1)) hx hb dX11_aim_54 (by decide) ?_
          obtain ⟨rfl, rfl⟩ := Prod.mk.inj (Option.some.inj h)
          exact rt_i hF hr hk rfl (fun _ => 0) hW rfl dX11_aim_55
        · have h := ifp q17 h
          refine lv_aload_n hx hb dX11_aim_42 rfl (lv_at hl 0 rfl) ?_
          refine g_X11_10 hF hW dX11_aim_43 ?_
          refine lv_iload hx hb dX11_aim_46 (lv_at hl 5 rfl) ?_
          obtain ⟨r18, hc20, h⟩ := bq_some h
          refine cV_i (ci := 8) (q0 := 1) (rest := []) hF hW mw_X11_159 (c_X8_known l K a d hc20) ⟨Nat.le_of_ble_eq_true rfl, Nat.le_of_ble_eq_true rfl⟩ rfl rfl (pC_1 K a d _) rfl hl.1 rfl (Nat.le_of_ble_eq_true rfl) dX11_aim_48 ⟨Nat.le_of_ble_eq_true rfl, Nat.le_of_ble_eq_true rfl⟩ (fun _ H locs hW => ?_)
          refine lz_ne (tgt := 56) hx hb dX11_aim_51 (by decide) (fun q21 => ?_) (fun q21 => ?_)
          · have h := ifp q21 h
            refine lv_aload_n hx hb dX11_aim_56 rfl (lv_at hl 0 rfl) ?_
            refine g_X11_19 hF hW dX11_aim_57 ?_
            refine lv_iload_n hx hb dX11_aim_60 rfl (lv_at hl 1 rfl) ?_
            obtain ⟨r22, hc24, h⟩ := bq_some h
            refine cV_i (ci := 2) (q0 := 5) (rest := []) hF hW mw_X11_160 (c_X2_isAct l K a d hc24) ⟨Nat.le_of_ble_eq_true rfl, Nat.le_of_ble_eq_true rfl⟩ rfl rfl (pC_5 K a d _) rfl hl.1 rfl (Nat.le_of_ble_eq_true rfl) dX11_aim_61 ⟨Nat.le_of_ble_eq_true rfl, Nat.le_of_ble_eq_true rfl⟩ (fun _ H locs hW => ?_)
            refine lz_ne (tgt := 73) hx hb dX11_aim_64 (by decide) (fun q25 => ?_) (fun q25 => ?_)
            · have h := ifp q25 h
              refine lv_aload_n hx hb dX11_aim_73 rfl (lv_at hl 0 rfl) ?_
              refine g_X11_19 hF hW dX11_aim_74 ?_
              refine g_X11_166 hF hW dX11_aim_77 ?_
              refine lv_iload_n hx hb dX11_aim_80 rfl (lv_at hl 1 rfl) ?_
              obtain ⟨q26, h⟩ := ck_some h
              refine w_ild hF hW (pC_11 K a d _) q26 dX11_aim_81 ?_
              refine lv_istore (lv' := [(6, .int (M.1 11 x1.toNatClampNeg)), (0, .ref (a 0)), (1, .int x1), (2, .int x2), (3, .int x3), (4, .int x4), (5, .int x5)]) hx hb dX11_aim_82 hl (by decide) rfl (fun ls hl => ?_)
              refine lv_aload_n hx hb dX11_aim_84 rfl (lv_at hl 1 rfl) ?_
              refine g_X11_10 hF hW dX11_aim_85 ?_
              refine lv_iload hx hb dX11_aim_88 (lv_at hl 5 rfl) ?_
              refine lv_iload hx hb dX11_aim_90 (lv_at hl 0 rfl) ?_
              obtain ⟨r27, hc29, h⟩ := bq_some h
              refine cV_i (ci := 8) (q0 := 1) (rest := []) hF hW mw_X11_141 (c_X8_fits l K a d hc29) ⟨Nat.le_of_ble_eq_true rfl, Nat.le_of_ble_eq_true rfl⟩ rfl rfl (pC_1 K a d _) rfl hl.1 rfl (Nat.le_of_ble_eq_true rfl) dX11_aim_92 ⟨Nat.le_of_ble_eq_true rfl, Nat.le_of_ble_eq_true rfl⟩ (fun _ H locs hW => ?_)
              refine lz_eq (tgt := 112) hx hb dX11_aim_95 (by decide) (fun q30 => ?_) (fun q30 => ?_)
              · have h := ifn q30 h
                refine lv_iconst (v := (-1)) hx hb dX11_aim_112 (by decide) ?_
                obtain ⟨rfl, rfl⟩ := Prod.mk.inj (Option.some.inj h)
                exact rt_i hF hr hk rfl (fun _ => 0) hW rfl dX11_aim_113
              · have h := ifp q30 h
                refine lv_aload_n hx hb dX11_aim_98 rfl (lv_at hl 1 rfl) ?_
                refine g_X11_10 hF hW dX11_aim_99 ?_
                refine lv_iload hx hb dX11_aim_102 (lv_at hl 6 rfl) ?_
                refine lv_iload hx hb dX11_aim_104 (lv_at hl 0 rfl) ?_
                obtain ⟨r31, hc33, h⟩ := bq_some h
                refine cV_i (ci := 8) (q0 := 1) (rest := []) hF hW mw_X11_141 (c_X8_fits l K a d hc33) ⟨Nat.le_of_ble_eq_true rfl, Nat.le_of_ble_eq_true rfl⟩ rfl rfl (pC_1 K a d _) rfl hl.1 rfl (Nat.le_of_ble_eq_true rfl) dX11_aim_106 ⟨Nat.le_of_ble_eq_true rfl, Nat.le_of_ble_eq_true rfl⟩ (fun _ H locs hW => ?_)
                refine lz_ne (tgt := 114) hx hb dX11_aim_109 (by decide) (fun q34 => ?_) (fun q34 => ?_)
                · have h := ifp q34 h
                  refine lv_aload_n hx hb dX11_aim_114 rfl (lv_at hl 1 rfl) ?_
                  refine g_X11_19 hF hW dX11_aim_115 ?_
                  refine lv_aload_n hx hb dX11_aim_118 rfl (lv_at hl 1 rfl) ?_
                  refine g_X11_19 hF hW dX11_aim_119 ?_
                  refine g_X11_169 hF hW dX11_aim_122 ?_
                  refine lv_iload_n hx hb dX11_aim_125 rfl (lv_at hl 2 rfl) ?_
                  obtain ⟨q35, h⟩ := ck_some h
                  refine w_ild hF hW (pC_17 K a d _) q35 dX11_aim_126 ?_
                  refine lv_iconst (v := 3) hx hb dX11_aim_127 (by decide) ?_
                  refine lv_imul hx hb dX11_aim_128 ?_
                  refine lv_iload_n hx hb dX11_aim_129 rfl (lv_at hl 3 rfl) ?_
                  refine lv_iadd hx hb dX11_aim_130 ?_
                  refine lv_iload_n hx hb dX11_aim_131 rfl (lv_at hl 4 rfl) ?_
                  refine lv_iload hx hb dX11_aim_132 (lv_at hl 5 rfl) ?_
                  refine lv_iload hx hb dX11_aim_134 (lv_at hl 6 rfl) ?_
                  obtain ⟨M37, hc38, h⟩ := bm_some h
                  refine cV_v (ci := 2) (q0 := 5) (rest := []) hF hW mw_X11_172 (c_X2_setAim l K a d hc38) ⟨Nat.le_of_ble_eq_true rfl, Nat.le_of_ble_eq_true rfl⟩ rfl rfl (pC_5 K a d _) rfl hl.1 rfl (Nat.le_of_ble_eq_true rfl) dX11_aim_136 ⟨Nat.le_of_ble_eq_true rfl, Nat.le_of_ble_eq_true rfl⟩ (fun _ H locs hW => ?_)
                  refine lv_aload_n hx hb dX11_aim_139 rfl (lv_at hl 1 rfl) ?_
                  obtain ⟨M40, hc41, h⟩ := bm_some h
                  refine cV_v (ci := 11) (q0 := 0) (rest := []) hF hW mw_X11_176 (c_X11_aimsChanged l K a d hc41) ⟨Nat.le_of_ble_eq_true rfl, Nat.le_of_ble_eq_true rfl⟩ rfl rfl (pC_0 K a d _) rfl hl.1 rfl (Nat.le_of_ble_eq_true rfl) dX11_aim_140 ⟨Nat.le_of_ble_eq_true rfl, Nat.le_of_ble_eq_true rfl⟩ (fun _ H locs hW => ?_)
                  refine lv_iconst (v := 1) hx hb dX11_aim_143 (by decide) ?_
                  obtain ⟨rfl, rfl⟩ := Prod.mk.inj (Option.some.inj h)
                  exact rt_i hF hr hk rfl (fun _ => 0) hW rfl dX11_aim_144
                · have h := ifn q34 h
                  refine lv_iconst (v := (-1)) hx hb dX11_aim_112 (by decide) ?_
                  obtain ⟨rfl, rfl⟩ := Prod.mk.inj (Option.some.inj h)
                  exact rt_i hF hr hk rfl (fun _ => 0) hW rfl dX11_aim_113
            · have h := ifn q25 h
              refine lv_aload_n hx hb dX11_aim_67 rfl (lv_at hl 0 rfl) ?_
              refine lv_iconst (v := 3) hx hb dX11_aim_68 (by decide) ?_
              obtain ⟨r42, M43, hc44, h⟩ := bd_some h
              refine cV_i (ci := 11) (q0 := 0) (rest := []) hF hW mw_X11_163 (c_X11_meet l K a d hc44) ⟨Nat.le_of_ble_eq_true rfl, Nat.le_of_ble_eq_true rfl⟩ rfl rfl (pC_0 K a d _) rfl hl.1 rfl (Nat.le_of_ble_eq_true rfl) dX11_aim_69 ⟨Nat.le_of_ble_eq_true rfl, Nat.le_of_ble_eq_true rfl⟩ (fun _ H locs hW => ?_)
              obtain ⟨rfl, rfl⟩ := Prod.mk.inj (Option.some.inj h)
              exact rt_i hF hr hk rfl (fun _ => 0) hW rfl dX11_aim_72
          · have h := ifn q21 h
            refine lv_iconst (v := (-1)) hx hb dX11_aim_54 (by decide) ?_
            obtain ⟨rfl, rfl⟩ := Prod.mk.inj (Option.some.inj h)
            exact rt_i hF hr hk rfl (fun _ => 0) hW rfl dX11_aim_55
set_option maxRecDepth 100000 in
set_option maxHeartbeats 1000000 in
theorem c_X11_row (l : Launch) (K : Kx) (a d : Nat → Nat) {M M0 : Mem} {x1 : Int32} {x2 : Int32} {x3 : Int32} {r0 : Int32} (h : f_X11_row M x1 x2 x3 = some (r0, M0)) : CMi l yX11_row cX11_row 5 (some .int) ({ frames := 3, cells := 0, slots := 0, locals := 87 } : Room) K [.ref (a 0), .int x1, .int x2, .int x3] (wC K a d M) (fun _ => wC K a d M0) r0 := by
  refine cs_i (by decide +kernel) (Nat.le_of_ble_eq_true rfl) ?_
  intro p e s m args below meth c A ls hF hr hk hnm hW hl
  have hx := hF.1
  have hb := hF.2.1
  have hl : lv_has ls 5 [(0, .ref (a 0)), (1, .int x1), (2, .int x2), (3, .int x3)] := hl
  obtain ⟨H, hH⟩ : ∃ z, z = s.heap := ⟨_, rfl⟩
  rw [← hH] at hW ⊢
  unfold f_X11_row at h
  refine lv_aload_n hx hb dX11_row_0 rfl (lv_at hl 0 rfl) ?_
  refine lv_iload_n hx hb dX11_row_1 rfl (lv_at hl 1 rfl) ?_
  obtain ⟨r1, hc3, h⟩ := bq_some h
  refine cV_q (ci := 11) (q0 := 0) (rest := []) hF hW mw_X11_155 (c_X11_rackOf l K a d hc3) ⟨Nat.le_of_ble_eq_true rfl, Nat.le_of_ble_eq_true rfl⟩ rfl rfl (pC_0 K a d _) rfl hl.1 rfl (Nat.le_of_ble_eq_true rfl) dX11_row_2 ⟨Nat.le_of_ble_eq_true rfl, Nat.le_of_ble_eq_true rfl⟩ (fun _ H locs hW => ?_)
  refine q_split (fun q5 => ?_) (fun j4 q5 => ?_)
  · have h := oq_none q5 h
    refine lv_astoreN (lv' := [(4, .null), (0, .ref (a 0)), (1, .int x1), (2, .int x2), (3, .int x3)]) hx hb dX11_row_5 hl (by decide) rfl (fun ls hl => ?_)
    refine lv_aloadN hx hb dX11_row_7 (lv_at hl 0 rfl) ?_
    refine lv_ifnullN (tgt := 18) hx hb dX11_row_9 (by decide) ?_
    refine lv_iconst (v := (-1)) hx hb dX11_row_18 (by decide) ?_
    obtain ⟨rfl, rfl⟩ := Prod.mk.inj (Option.some.inj h)
    exact rt_i hF hr hk rfl (fun _ => 0) hW rfl dX11_row_19
  · have h := oq_some q5 h
    refine lv_astore (lv' := [(4, .ref (d (6 * j4))), (0, .ref (a 0)), (1, .int x1), (2, .int x2), (3, .int x3)]) hx hb dX11_row_5 hl (by decide) rfl (fun ls hl => ?_)
    refine lv_aload hx hb dX11_row_7 (lv_at hl 0 rfl) ?_
    refine lv_ifnull hx hb dX11_row_9 ?_
    refine lv_iload_n hx hb dX11_row_12 rfl (lv_at hl 4 rfl) ?_
    refine lv_bipush (v := 20) hx hb dX11_row_13 (by decide) ?_
    refine lv_icmp_le (tgt := 20) hx hb dX11_row_15 (by decide) (fun q6 => ?_) (fun q6 => ?_)
    · have h := ifp q6 h
      refine lv_aload hx hb dX11_row_20 (lv_at hl 0 rfl) ?_
      refine lv_iload_n hx hb dX11_row_22 rfl (lv_at hl 3 rfl) ?_
      refine lv_i2l hx hb dX11_row_23 rfl ?_
      obtain ⟨hi7, h⟩ := cN_some h
      obtain ⟨r8, hc10, h⟩ := bq_some h
      refine cV_i (ci := 5) (rest := []) hF hW mw_X11_222 (c_X5_hasRow l K a d hi7 hc10) ⟨Nat.le_of_ble_eq_true rfl, Nat.le_of_ble_eq_true rfl⟩ rfl rfl (pR_0 K a d _ _ hi7) rfl hl.1 rfl (Nat.le_of_ble_eq_true rfl) dX11_row_24 ⟨Nat.le_of_ble_eq_true rfl, Nat.le_of_ble_eq_true rfl⟩ (fun _ H locs hW => ?_)
      refine lz_ne (tgt := 36) hx hb dX11_row_27 (by decide) (fun q11 => ?_) (fun q11 => ?_)
      · have h := ifp q11 h
        refine lv_iload_n hx hb dX11_row_36 rfl (lv_at hl 4 rfl) ?_
        refine lv_if_ge (tgt := 46) hx hb dX11_row_37 (by decide) (fun q12 => ?_) (fun q12 => ?_)
        · have h := ifp q12 h
          refine lv_aload hx hb dX11_row_46 (lv_at hl 0 rfl) ?_
          refine lv_iload_n hx hb dX11_row_48 rfl (lv_at hl 3 rfl) ?_
          refine lv_iload_n hx hb dX11_row_49 rfl (lv_at hl 4 rfl) ?_
          obtain ⟨M14, hc15, h⟩ := bm_some h
          refine cV_v (ci := 5) (rest := []) hF hW mw_X11_226 (c_X5_renew l K a d hi7 hc15) ⟨Nat.le_of_ble_eq_true rfl, Nat.le_of_ble_eq_true rfl⟩ rfl rfl (pR_0 K a d _ _ hi7) rfl hl.1 rfl (Nat.le_of_ble_eq_true rfl) dX11_row_50 ⟨Nat.le_of_ble_eq_true rfl, Nat.le_of_ble_eq_true rfl⟩ (fun _ H locs hW => ?_)
          refine lv_iload_n hx hb dX11_row_53 rfl (lv_at hl 4 rfl) ?_
          obtain ⟨rfl, rfl⟩ := Prod.mk.inj (Option.some.inj h)
          exact rt_i hF hr hk rfl (fun _ => 0) hW rfl dX11_row_54
        · have h := ifn q12 h
          refine lv_aload_n hx hb dX11_row_40 rfl (lv_at hl 1 rfl) ?_
          refine lv_iconst (v := 5) hx hb dX11_row_41 (by decide) ?_
          obtain ⟨r16, M17, hc18, h⟩ := bd_some h
          refine cV_i (ci := 11) (q0 := 0) (rest := []) hF hW mw_X11_163 (c_X11_meet l K a d hc18) ⟨Nat.le_of_ble_eq_true rfl, Nat.le_of_ble_eq_true rfl⟩ rfl rfl (pC_0 K a d _) rfl hl.1 rfl (Nat.le_of_ble_eq_true rfl) dX11_row_42 ⟨Nat.le_of_ble_eq_true rfl, Nat.le_of_ble_eq_true rfl⟩ (fun _ H locs hW => ?_)
          obtain ⟨rfl, rfl⟩ := Prod.mk.inj (Option.some.inj h)
          exact rt_i hF hr hk rfl (fun _ => 0) hW rfl dX11_row_45
      · have h := ifn q11 h
        refine lv_aload_n hx hb dX11_row_30 rfl (lv_at hl 1 rfl) ?_
        refine lv_iconst (v := 2) hx hb dX11_row_31 (by decide) ?_
        obtain ⟨r19, M20, hc21, h⟩ := bd_some h
        refine cV_i (ci := 11) (q0 := 0) (rest := []) hF hW mw_X11_163 (c_X11_meet l K a d hc21) ⟨Nat.le_of_ble_eq_true rfl, Nat.le_of_ble_eq_true rfl⟩ rfl rfl (pC_0 K a d _) rfl hl.1 rfl (Nat.le_of_ble_eq_true rfl) dX11_row_32 ⟨Nat.le_of_ble_eq_true rfl, Nat.le_of_ble_eq_true rfl⟩ (fun _ H locs hW => ?_)
        obtain ⟨rfl, rfl⟩ := Prod.mk.inj (Option.some.inj h)
        exact rt_i hF hr hk rfl (fun _ => 0) hW rfl dX11_row_35
    · have h := ifn q6 h
      refine lv_iconst (v := (-1)) hx hb dX11_row_18 (by decide) ?_
      obtain ⟨rfl, rfl⟩ := Prod.mk.inj (Option.some.inj h)
      exact rt_i hF hr hk rfl (fun _ => 0) hW rfl dX11_row_19
set_option maxRecDepth 100000 in
set_option maxHeartbeats 1000000 in
theorem c_X11_tear (l : Launch) (K : Kx) (a d : Nat → Nat) {M M0 : Mem} {x1 : Int32} {x2 : Int32} {r0 : Int32} (h : f_X11_tear M x1 x2 = some (r0, M0)) : CMi l yX11_tear cX11_tear 4 (some .int) ({ frames := 2, cells := 0, slots := 0, locals := 43 } : Room) K [.ref (a 0), .int x1, .int x2] (wC K a d M) (fun _ => wC K a d M0) r0 := by
  refine cs_i (by decide +kernel) (Nat.le_of_ble_eq_true rfl) ?_
  intro p e s m args below meth c A ls hF hr hk hnm hW hl
  have hx := hF.1
  have hb := hF.2.1
  have hl : lv_has ls 4 [(0, .ref (a 0)), (1, .int x1), (2, .int x2)] := hl
  obtain ⟨H, hH⟩ : ∃ z, z = s.heap := ⟨_, rfl⟩
  rw [← hH] at hW ⊢
  unfold f_X11_tear at h
  refine lv_aload_n hx hb dX11_tear_0 rfl (lv_at hl 0 rfl) ?_
  refine lv_iload_n hx hb dX11_tear_1 rfl (lv_at hl 1 rfl) ?_
  obtain ⟨r1, hc3, h⟩ := bq_some h
  refine cV_q (ci := 11) (q0 := 0) (rest := []) hF hW mw_X11_155 (c_X11_rackOf l K a d hc3) ⟨Nat.le_of_ble_eq_true rfl, Nat.le_of_ble_eq_true rfl⟩ rfl rfl (pC_0 K a d _) rfl hl.1 rfl (Nat.le_of_ble_eq_true rfl) dX11_tear_2 ⟨Nat.le_of_ble_eq_true rfl, Nat.le_of_ble_eq_true rfl⟩ (fun _ H locs hW => ?_)
  refine q_split (fun q5 => ?_) (fun j4 q5 => ?_)
  · have h := oq_none q5 h
    refine lv_astore_nN (lv' := [(3, .null), (0, .ref (a 0)), (1, .int x1), (2, .int x2)]) hx hb dX11_tear_5 rfl hl (by decide) rfl (fun ls hl => ?_)
    refine lv_aload_nN hx hb dX11_tear_6 rfl (lv_at hl 0 rfl) ?_
    refine lv_ifnonnullN hx hb dX11_tear_7 ?_
    refine lv_iconst (v := (-1)) hx hb dX11_tear_10 (by decide) ?_
    obtain ⟨rfl, rfl⟩ := Prod.mk.inj (Option.some.inj h)
    exact rt_i hF hr hk rfl (fun _ => 0) hW rfl dX11_tear_11
  · have h := oq_some q5 h
    refine lv_astore_n (lv' := [(3, .ref (d (6 * j4))), (0, .ref (a 0)), (1, .int x1), (2, .int x2)]) hx hb dX11_tear_5 rfl hl (by decide) rfl (fun ls hl => ?_)
    refine lv_aload_n hx hb dX11_tear_6 rfl (lv_at hl 0 rfl) ?_
    refine lv_ifnonnull (tgt := 12) hx hb dX11_tear_7 (by decide) ?_
    refine lv_aload_n hx hb dX11_tear_12 rfl (lv_at hl 0 rfl) ?_
    refine lv_iload_n hx hb dX11_tear_13 rfl (lv_at hl 3 rfl) ?_
    refine lv_i2l hx hb dX11_tear_14 rfl ?_
    obtain ⟨hi6, h⟩ := cN_some h
    obtain ⟨r7, hc9, h⟩ := bq_some h
    refine cV_i (ci := 5) (rest := []) hF hW mw_X11_222 (c_X5_hasRow l K a d hi6 hc9) ⟨Nat.le_of_ble_eq_true rfl, Nat.le_of_ble_eq_true rfl⟩ rfl rfl (pR_0 K a d _ _ hi6) rfl hl.1 rfl (Nat.le_of_ble_eq_true rfl) dX11_tear_15 ⟨Nat.le_of_ble_eq_true rfl, Nat.le_of_ble_eq_true rfl⟩ (fun _ H locs hW => ?_)
    refine lz_ne (tgt := 27) hx hb dX11_tear_18 (by decide) (fun q10 => ?_) (fun q10 => ?_)
    · have h := ifp q10 h
      refine lv_aload_n hx hb dX11_tear_27 rfl (lv_at hl 0 rfl) ?_
      refine w_get hF hW (pR_0 K a d _ _ hi6) rfl iX5 1 (by decide) fl_X11_229 rfl dX11_tear_28 ?_
      refine lv_iload_n hx hb dX11_tear_31 rfl (lv_at hl 3 rfl) ?_
      refine lv_iconst (v := (-1)) hx hb dX11_tear_32 (by decide) ?_
      obtain ⟨q11, h⟩ := ck_some h
      refine w_ist hF hW (pR_1 K a d _ _ hi6) q11 (uR_1 K a d _ _ _ _ hi6) dX11_tear_33 (fun H locs hW => ?_)
      refine lv_iconst (v := 1) hx hb dX11_tear_34 (by decide) ?_
      obtain ⟨rfl, rfl⟩ := Prod.mk.inj (Option.some.inj h)
      exact rt_i hF hr hk rfl (fun _ => 0) hW rfl dX11_tear_35
    · have h := ifn q10 h
      refine lv_aload_n hx hb dX11_tear_21 rfl (lv_at hl 1 rfl) ?_
      refine lv_iconst (v := 2) hx hb dX11_tear_22 (by decide) ?_
      obtain ⟨r12, M13, hc14, h⟩ := bd_some h
      refine cV_i (ci := 11) (q0 := 0) (rest := []) hF hW mw_X11_163 (c_X11_meet l K a d hc14) ⟨Nat.le_of_ble_eq_true rfl, Nat.le_of_ble_eq_true rfl⟩ rfl rfl (pC_0 K a d _) rfl hl.1 rfl (Nat.le_of_ble_eq_true rfl) dX11_tear_23 ⟨Nat.le_of_ble_eq_true rfl, Nat.le_of_ble_eq_true rfl⟩ (fun _ H locs hW => ?_)
      obtain ⟨rfl, rfl⟩ := Prod.mk.inj (Option.some.inj h)
      exact rt_i hF hr hk rfl (fun _ => 0) hW rfl dX11_tear_26
set_option maxRecDepth 100000 in
set_option maxHeartbeats 1000000 in
theorem c_X11_lay (l : Launch) (K : Kx) (a d : Nat → Nat) {M M0 : Mem} {x1 : Int32} {x2 : Int32} {x3 : Int32} {x4 : Int64} {r0 : Int32} (h : f_X11_lay M x1 x2 x3 x4 = some (r0, M0)) : CMi l yX11_lay cX11_lay 8 (some .int) ({ frames := 2, cells := 0, slots := 0, locals := 47 } : Room) K [.ref (a 0), .int x1, .int x2, .int x3, .long x4] (wC K a d M) (fun _ => wC K a d M0) r0 := by
  refine cs_i (by decide +kernel) (Nat.le_of_ble_eq_true rfl) ?_
  intro p e s m args below meth c A ls hF hr hk hnm hW hl
  have hx := hF.1
  have hb := hF.2.1
  have hl : lv_has ls 8 [(0, .ref (a 0)), (1, .int x1), (2, .int x2), (3, .int x3), (4, .long x4)] := hl
  obtain ⟨H, hH⟩ : ∃ z, z = s.heap := ⟨_, rfl⟩
  rw [← hH] at hW ⊢
  unfold f_X11_lay at h
  refine lv_aload_n hx hb dX11_lay_0 rfl (lv_at hl 0 rfl) ?_
  refine lv_iload_n hx hb dX11_lay_1 rfl (lv_at hl 1 rfl) ?_
  obtain ⟨r1, hc3, h⟩ := bq_some h
  refine cV_q (ci := 11) (q0 := 0) (rest := []) hF hW mw_X11_155 (c_X11_rackOf l K a d hc3) ⟨Nat.le_of_ble_eq_true rfl, Nat.le_of_ble_eq_true rfl⟩ rfl rfl (pC_0 K a d _) rfl hl.1 rfl (Nat.le_of_ble_eq_true rfl) dX11_lay_2 ⟨Nat.le_of_ble_eq_true rfl, Nat.le_of_ble_eq_true rfl⟩ (fun _ H locs hW => ?_)
  refine q_split (fun q5 => ?_) (fun j4 q5 => ?_)
  · have h := oq_none q5 h
    refine lv_astoreN (lv' := [(6, .null), (0, .ref (a 0)), (1, .int x1), (2, .int x2), (3, .int x3), (4, .long x4)]) hx hb dX11_lay_5 hl (by decide) rfl (fun ls hl => ?_)
    refine lv_aloadN hx hb dX11_lay_7 (lv_at hl 0 rfl) ?_
    refine lv_ifnonnullN hx hb dX11_lay_9 ?_
    refine lv_iconst (v := (-1)) hx hb dX11_lay_12 (by decide) ?_
    obtain ⟨rfl, rfl⟩ := Prod.mk.inj (Option.some.inj h)
    exact rt_i hF hr hk rfl (fun _ => 0) hW rfl dX11_lay_13
  · have h := oq_some q5 h
    refine lv_astore (lv' := [(6, .ref (d (6 * j4))), (0, .ref (a 0)), (1, .int x1), (2, .int x2), (3, .int x3), (4, .long x4)]) hx hb dX11_lay_5 hl (by decide) rfl (fun ls hl => ?_)
    refine lv_aload hx hb dX11_lay_7 (lv_at hl 0 rfl) ?_
    refine lv_ifnonnull (tgt := 14) hx hb dX11_lay_9 (by decide) ?_
    refine lv_aload hx hb dX11_lay_14 (lv_at hl 0 rfl) ?_
    refine lv_iload_n hx hb dX11_lay_16 rfl (lv_at hl 3 rfl) ?_
    refine lv_i2l hx hb dX11_lay_17 rfl ?_
    refine lv_iload_n hx hb dX11_lay_18 rfl (lv_at hl 4 rfl) ?_
    refine lv_i2l hx hb dX11_lay_19 rfl ?_
    obtain ⟨hi6, h⟩ := cN_some h
    obtain ⟨r7, hc9, h⟩ := bq_some h
    refine cV_i (ci := 5) (rest := []) hF hW mw_X11_232 (c_X5_lack l K a d hi6 hc9) ⟨Nat.le_of_ble_eq_true rfl, Nat.le_of_ble_eq_true rfl⟩ rfl rfl (pR_0 K a d _ _ hi6) rfl hl.1 rfl (Nat.le_of_ble_eq_true rfl) dX11_lay_20 ⟨Nat.le_of_ble_eq_true rfl, Nat.le_of_ble_eq_true rfl⟩ (fun _ H locs hW => ?_)
    refine lv_istore (lv' := [(7, .int r7), (6, .ref (d (6 * j4))), (0, .ref (a 0)), (1, .int x1), (2, .int x2), (3, .int x3), (4, .long x4)]) hx hb dX11_lay_23 hl (by decide) rfl (fun ls hl => ?_)
    refine lv_iload hx hb dX11_lay_25 (lv_at hl 0 rfl) ?_
    refine lv_if_eq (tgt := 37) hx hb dX11_lay_27 (by decide) (fun q10 => ?_) (fun q10 => ?_)
    · have h := ifp q10 h
      refine lv_aload hx hb dX11_lay_37 (lv_at hl 1 rfl) ?_
      refine lv_iload_n hx hb dX11_lay_39 rfl (lv_at hl 4 rfl) ?_
      refine lv_iload_n hx hb dX11_lay_40 rfl (lv_at hl 5 rfl) ?_
      refine lv_lload hx hb dX11_lay_41 (lv_at hl 6 rfl) ?_
      obtain ⟨M12, hc13, h⟩ := bm_some h
      refine cV_v (ci := 5) (rest := []) hF hW mw_X11_236 (c_X5_store l K a d hi6 hc13) ⟨Nat.le_of_ble_eq_true rfl, Nat.le_of_ble_eq_true rfl⟩ rfl rfl (pR_0 K a d _ _ hi6) rfl hl.1 rfl (Nat.le_of_ble_eq_true rfl) dX11_lay_43 ⟨Nat.le_of_ble_eq_true rfl, Nat.le_of_ble_eq_true rfl⟩ (fun _ H locs hW => ?_)
      refine lv_iconst (v := 1) hx hb dX11_lay_46 (by decide) ?_
      obtain ⟨rfl, rfl⟩ := Prod.mk.inj (Option.some.inj h)
      exact rt_i hF hr hk rfl (fun _ => 0) hW rfl dX11_lay_47
    · have h := ifn q10 h
      refine lv_aload_n hx hb dX11_lay_30 rfl (lv_at hl 2 rfl) ?_
      refine lv_iload hx hb dX11_lay_31 (lv_at hl 0 rfl) ?_
      obtain ⟨r14, M15, hc16, h⟩ := bd_some h
      refine cV_i (ci := 11) (q0 := 0) (rest := []) hF hW mw_X11_163 (c_X11_meet l K a d hc16) ⟨Nat.le_of_ble_eq_true rfl, Nat.le_of_ble_eq_true rfl⟩ rfl rfl (pC_0 K a d _) rfl hl.1 rfl (Nat.le_of_ble_eq_true rfl) dX11_lay_33 ⟨Nat.le_of_ble_eq_true rfl, Nat.le_of_ble_eq_true rfl⟩ (fun _ H locs hW => ?_)
      obtain ⟨rfl, rfl⟩ := Prod.mk.inj (Option.some.inj h)
      exact rt_i hF hr hk rfl (fun _ => 0) hW rfl dX11_lay_36
set_option maxRecDepth 100000 in
set_option maxHeartbeats 1000000 in
theorem c_X11_get (l : Launch) (K : Kx) (a d : Nat → Nat) {M M0 : Mem} {x1 : Int32} {x2 : Int32} {x3 : Int32} {r0 : Int32} (h : f_X11_get M x1 x2 x3 = some (r0, M0)) : CMi l yX11_get cX11_get 6 (some .int) ({ frames := 2, cells := 0, slots := 0, locals := 47 } : Room) K [.ref (a 0), .int x1, .int x2, .int x3] (wC K a d M) (fun _ => wC K a d M0) r0 := by
  refine cs_i (by decide +kernel) (Nat.le_of_ble_eq_true rfl) ?_
  intro p e s m args below meth c A ls hF hr hk hnm hW hl
  have hx := hF.1
  have hb := hF.2.1
  have hl : lv_has ls 6 [(0, .ref (a 0)), (1, .int x1), (2, .int x2), (3, .int x3)] := hl
  obtain ⟨H, hH⟩ : ∃ z, z = s.heap := ⟨_, rfl⟩
  rw [← hH] at hW ⊢
  unfold f_X11_get at h
  refine lv_aload_n hx hb dX11_get_0 rfl (lv_at hl 0 rfl) ?_
  refine lv_iload_n hx hb dX11_get_1 rfl (lv_at hl 1 rfl) ?_
  obtain ⟨r1, hc3, h⟩ := bq_some h
  refine cV_q (ci := 11) (q0 := 0) (rest := []) hF hW mw_X11_155 (c_X11_rackOf l K a d hc3) ⟨Nat.le_of_ble_eq_true rfl, Nat.le_of_ble_eq_true rfl⟩ rfl rfl (pC_0 K a d _) rfl hl.1 rfl (Nat.le_of_ble_eq_true rfl) dX11_get_2 ⟨Nat.le_of_ble_eq_true rfl, Nat.le_of_ble_eq_true rfl⟩ (fun _ H locs hW => ?_)
  refine q_split (fun q5 => ?_) (fun j4 q5 => ?_)
  · have h := oq_none q5 h
    refine lv_astoreN (lv' := [(4, .null), (0, .ref (a 0)), (1, .int x1), (2, .int x2), (3, .int x3)]) hx hb dX11_get_5 hl (by decide) rfl (fun ls hl => ?_)
    refine lv_aloadN hx hb dX11_get_7 (lv_at hl 0 rfl) ?_
    refine lv_ifnonnullN hx hb dX11_get_9 ?_
    refine lv_iconst (v := (-1)) hx hb dX11_get_12 (by decide) ?_
    obtain ⟨rfl, rfl⟩ := Prod.mk.inj (Option.some.inj h)
    exact rt_i hF hr hk rfl (fun _ => 0) hW rfl dX11_get_13
  · have h := oq_some q5 h
    refine lv_astore (lv' := [(4, .ref (d (6 * j4))), (0, .ref (a 0)), (1, .int x1), (2, .int x2), (3, .int x3)]) hx hb dX11_get_5 hl (by decide) rfl (fun ls hl => ?_)
    refine lv_aload hx hb dX11_get_7 (lv_at hl 0 rfl) ?_
    refine lv_ifnonnull (tgt := 14) hx hb dX11_get_9 (by decide) ?_
    refine lv_aload hx hb dX11_get_14 (lv_at hl 0 rfl) ?_
    refine lv_iload_n hx hb dX11_get_16 rfl (lv_at hl 3 rfl) ?_
    refine lv_i2l hx hb dX11_get_17 rfl ?_
    refine lv_iload_n hx hb dX11_get_18 rfl (lv_at hl 4 rfl) ?_
    refine lv_i2l hx hb dX11_get_19 rfl ?_
    obtain ⟨hi6, h⟩ := cN_some h
    obtain ⟨r7, hc9, h⟩ := bq_some h
    refine cV_i (ci := 5) (rest := []) hF hW mw_X11_232 (c_X5_lack l K a d hi6 hc9) ⟨Nat.le_of_ble_eq_true rfl, Nat.le_of_ble_eq_true rfl⟩ rfl rfl (pR_0 K a d _ _ hi6) rfl hl.1 rfl (Nat.le_of_ble_eq_true rfl) dX11_get_20 ⟨Nat.le_of_ble_eq_true rfl, Nat.le_of_ble_eq_true rfl⟩ (fun _ H locs hW => ?_)
    refine lv_istore (lv' := [(5, .int r7), (4, .ref (d (6 * j4))), (0, .ref (a 0)), (1, .int x1), (2, .int x2), (3, .int x3)]) hx hb dX11_get_23 hl (by decide) rfl (fun ls hl => ?_)
    refine lv_iload hx hb dX11_get_25 (lv_at hl 0 rfl) ?_
    refine lv_if_eq (tgt := 37) hx hb dX11_get_27 (by decide) (fun q10 => ?_) (fun q10 => ?_)
    · have h := ifp q10 h
      refine lv_aload_n hx hb dX11_get_37 rfl (lv_at hl 2 rfl) ?_
      refine lv_aload hx hb dX11_get_38 (lv_at hl 1 rfl) ?_
      refine lv_iload_n hx hb dX11_get_40 rfl (lv_at hl 4 rfl) ?_
      refine lv_iload_n hx hb dX11_get_41 rfl (lv_at hl 5 rfl) ?_
      obtain ⟨r11, hc13, h⟩ := bq_some h
      refine cV_l (ci := 5) (rest := [.ref (a 0)]) hF hW mw_X11_240 (c_X5_load l K a d hi6 hc13) ⟨Nat.le_of_ble_eq_true rfl, Nat.le_of_ble_eq_true rfl⟩ rfl rfl (pR_0 K a d _ _ hi6) rfl hl.1 rfl (Nat.le_of_ble_eq_true rfl) dX11_get_42 ⟨Nat.le_of_ble_eq_true rfl, Nat.le_of_ble_eq_true rfl⟩ (fun _ H locs hW => ?_)
      refine s_X11_92 (x := r11) hF hW dX11_get_45 (fun H locs hW => ?_)
      refine lv_iconst (v := 1) hx hb dX11_get_48 (by decide) ?_
      obtain ⟨rfl, rfl⟩ := Prod.mk.inj (Option.some.inj h)
      exact rt_i hF hr hk rfl (fun _ => 0) hW rfl dX11_get_49
    · have h := ifn q10 h
      refine lv_aload_n hx hb dX11_get_30 rfl (lv_at hl 2 rfl) ?_
      refine lv_iload hx hb dX11_get_31 (lv_at hl 0 rfl) ?_
      obtain ⟨r14, M15, hc16, h⟩ := bd_some h
      refine cV_i (ci := 11) (q0 := 0) (rest := []) hF hW mw_X11_163 (c_X11_meet l K a d hc16) ⟨Nat.le_of_ble_eq_true rfl, Nat.le_of_ble_eq_true rfl⟩ rfl rfl (pC_0 K a d _) rfl hl.1 rfl (Nat.le_of_ble_eq_true rfl) dX11_get_33 ⟨Nat.le_of_ble_eq_true rfl, Nat.le_of_ble_eq_true rfl⟩ (fun _ H locs hW => ?_)
      obtain ⟨rfl, rfl⟩ := Prod.mk.inj (Option.some.inj h)
      exact rt_i hF hr hk rfl (fun _ => 0) hW rfl dX11_get_36
set_option maxRecDepth 100000 in
set_option maxHeartbeats 1000000 in
theorem c_X11_digest (l : Launch) (K : Kx) (a d : Nat → Nat) {M : Mem}  {r0 : Int64} (h : f_X11_digest M = some r0) : CMl l yX11_digest cX11_digest 5 ({ frames := 2, cells := 0, slots := 0, locals := 48 } : Room) K [.ref (a 0)] (wC K a d M) (fun _ => wC K a d M) r0 := by
  refine cs_l (by decide +kernel) (Nat.le_of_ble_eq_true rfl) ?_
  intro p e s m args below meth c A ls hF hr hk hnm hW hl
  have hx := hF.1
  have hb := hF.2.1
  have hl : lv_has ls 5 [(0, .ref (a 0))] := hl
  obtain ⟨H, hH⟩ : ∃ z, z = s.heap := ⟨_, rfl⟩
  rw [← hH] at hW ⊢
  have J6 : ∀ (n6 : Nat) (x1 : Int64) (x3 : Int32) (M : Mem) (H : Heap) (locs : List Loc) (ls : Array Slot), f_X11_digest_6 n6 x1 x3 M = some r0 → Wd K A s (wC K a d M) H locs → lv_has ls 5 [(0, .ref (a 0)), (1, .long x1), (3, .int x3)] → W p l e ({ frames := 2, cells := 0, slots := 0, locals := 48 } : Room) s m args below meth c H locs 0 0 (EndL K A (fun _ => wC K a d M) r0 below args s ({ frames := 2, cells := 0, slots := 0, locals := 48 } : Room)) (F0 m 6 ls []) := by
    intro n6
    induction n6 with
    | zero => intro x1 x3 M H locs ls h; exact absurd h (by simp [f_X11_digest_6])
    | succ n6 ih6 =>
      have J36 : ∀ (n36 : Nat) (x1 : Int64) (x3 : Int32) (M : Mem) (H : Heap) (locs : List Loc) (ls : Array Slot), f_X11_digest_36 n36 x1 x3 M = some r0 → Wd K A s (wC K a d M) H locs → lv_has ls 5 [(0, .ref (a 0)), (1, .long x1), (3, .int x3)] → W p l e ({ frames := 2, cells := 0, slots := 0, locals := 48 } : Room) s m args below meth c H locs 0 0 (EndL K A (fun _ => wC K a d M) r0 below args s ({ frames := 2, cells := 0, slots := 0, locals := 48 } : Room)) (F0 m 36 ls []) := by
        intro n36
        induction n36 with
        | zero => intro x1 x3 M H locs ls h; exact absurd h (by simp [f_X11_digest_36])
        | succ n36 ih36 =>
          have J50 : ∀ (n50 : Nat) (x1 : Int64) (x3 : Int32) (x4 : Int32) (M : Mem) (H : Heap) (locs : List Loc) (ls : Array Slot), f_X11_digest_50 (f_X11_digest_36 n36) n50 x1 x3 x4 M = some r0 → Wd K A s (wC K a d M) H locs → lv_has ls 5 [(0, .ref (a 0)), (1, .long x1), (3, .int x3), (4, .int x4)] → W p l e ({ frames := 2, cells := 0, slots := 0, locals := 48 } : Room) s m args below meth c H locs 0 0 (EndL K A (fun _ => wC K a d M) r0 below args s ({ frames := 2, cells := 0, slots := 0, locals := 48 } : Room)) (F0 m 50 ls []) := by
            intro n50
            induction n50 with
            | zero => intro x1 x3 x4 M H locs ls h; exact absurd h (by simp [f_X11_digest_50])
            | succ n50 ih50 =>
              intro x1 x3 x4 M H locs ls h hW hl
              rw [f_X11_digest_50] at h
              refine lv_iload hx hb dX11_digest_50 (lv_at hl 3 rfl) ?_
              refine lv_iconst (v := 4) hx hb dX11_digest_52 (by decide) ?_
              refine lv_icmp_gt (tgt := 80) hx hb dX11_digest_53 (by decide) (fun q7 => ?_) (fun q7 => ?_)
              · have h := ifp q7 h
                refine lv_iinc (v := (x3 + 1)) (lv' := [(3, .int (x3 + 1)), (0, .ref (a 0)), (1, .long x1), (4, .int x4)]) hx hb dX11_digest_80 hl (k := 2) rfl rfl (by decide) rfl (fun ls hl => ?_)
                refine lv_goto (tgt := 36) hx hb dX11_digest_83 (by decide) ?_
                exact ih36 x1 (x3 + 1) _ _ _ _ h hW (lv_sub hl [1, 2, 0] rfl)
              · have h := ifn q7 h
                refine lv_ldc2 hx hb hF.2.2.2.1 (hF.2.2.1 _ kl_X11_412) dX11_digest_56 ?_
                refine lv_lload_n hx hb dX11_digest_59 rfl (lv_at hl 1 rfl) ?_
                refine lv_lmul hx hb dX11_digest_60 ?_
                refine lv_aload_n hx hb dX11_digest_61 rfl (lv_at hl 0 rfl) ?_
                refine g_X11_19 hF hW dX11_digest_62 ?_
                refine lv_iload_n hx hb dX11_digest_65 rfl (lv_at hl 2 rfl) ?_
                refine lv_iload hx hb dX11_digest_66 (lv_at hl 3 rfl) ?_
                obtain ⟨r8, hc10, h⟩ := bq_some h
                refine cV_i (ci := 2) (q0 := 5) (rest := [.long (31 * x1)]) hF hW mw_X11_179 (c_X2_tell l K a d hc10) ⟨Nat.le_of_ble_eq_true rfl, Nat.le_of_ble_eq_true rfl⟩ rfl rfl (pC_5 K a d _) rfl hl.1 rfl (Nat.le_of_ble_eq_true rfl) dX11_digest_68 ⟨Nat.le_of_ble_eq_true rfl, Nat.le_of_ble_eq_true rfl⟩ (fun _ H locs hW => ?_)
                refine lv_i2l hx hb dX11_digest_71 rfl ?_
                refine lv_ladd hx hb dX11_digest_72 ?_
                refine lv_lstore_n (lv' := [(1, .long ((31 * x1) + r8.toInt64)), (0, .ref (a 0)), (3, .int x3), (4, .int x4)]) hx hb dX11_digest_73 rfl hl (by decide) rfl (fun ls hl => ?_)
                refine lv_iinc (v := (x4 + 1)) (lv' := [(4, .int (x4 + 1)), (1, .long ((31 * x1) + r8.toInt64)), (0, .ref (a 0)), (3, .int x3)]) hx hb dX11_digest_74 hl (k := 3) rfl rfl (by decide) rfl (fun ls hl => ?_)
                refine lv_goto (tgt := 50) hx hb dX11_digest_77 (by decide) ?_
                exact ih50 ((31 * x1) + r8.toInt64) x3 (x4 + 1) _ _ _ _ h hW (lv_sub hl [2, 1, 3, 0] rfl)
          have J107 : ∀ (n107 : Nat) (x1 : Int64) (x3 : Int32) (M : Mem) (H : Heap) (locs : List Loc) (ls : Array Slot), f_X11_digest_107 n107 x1 x3 M = some r0 → Wd K A s (wC K a d M) H locs → lv_has ls 5 [(0, .ref (a 0)), (1, .long x1), (3, .int x3)] → W p l e ({ frames := 2, cells := 0, slots := 0, locals := 48 } : Room) s m args below meth c H locs 0 0 (EndL K A (fun _ => wC K a d M) r0 below args s ({ frames := 2, cells := 0, slots := 0, locals := 48 } : Room)) (F0 m 107 ls []) := by
            intro n107
            induction n107 with
            | zero => intro x1 x3 M H locs ls h; exact absurd h (by simp [f_X11_digest_107])
            | succ n107 ih107 =>
              intro x1 x3 M H locs ls h hW hl
              rw [f_X11_digest_107] at h
              refine lv_iload_n hx hb dX11_digest_107 rfl (lv_at hl 2 rfl) ?_
              refine lv_aload_n hx hb dX11_digest_108 rfl (lv_at hl 0 rfl) ?_
              refine g_X11_36 hF hW dX11_digest_109 ?_
              refine lv_icmp_ge (tgt := 140) hx hb dX11_digest_112 (by decide) (fun q11 => ?_) (fun q11 => ?_)
              · have h := ifp q11 h
                refine lv_lload_n hx hb dX11_digest_140 rfl (lv_at hl 1 rfl) ?_
                obtain rfl := Option.some.inj h
                exact rt_l hF hr hk (fun _ => 0) hW rfl dX11_digest_141
              · have h := ifn q11 h
                refine lv_aload_n hx hb dX11_digest_115 rfl (lv_at hl 0 rfl) ?_
                refine lv_iload_n hx hb dX11_digest_116 rfl (lv_at hl 2 rfl) ?_
                obtain ⟨r12, hc14, h⟩ := bq_some h
                refine cV_q (ci := 11) (q0 := 0) (rest := []) hF hW mw_X11_155 (c_X11_rackOf l K a d hc14) ⟨Nat.le_of_ble_eq_true rfl, Nat.le_of_ble_eq_true rfl⟩ rfl rfl (pC_0 K a d _) rfl hl.1 rfl (Nat.le_of_ble_eq_true rfl) dX11_digest_117 ⟨Nat.le_of_ble_eq_true rfl, Nat.le_of_ble_eq_true rfl⟩ (fun _ H locs hW => ?_)
                refine q_split (fun q16 => ?_) (fun j15 q16 => ?_)
                · have h := oq_none q16 h
                  refine lv_astoreN (lv' := [(4, .null), (0, .ref (a 0)), (1, .long x1), (3, .int x3)]) hx hb dX11_digest_120 hl (by decide) rfl (fun ls hl => ?_)
                  refine lv_aloadN hx hb dX11_digest_122 (lv_at hl 0 rfl) ?_
                  refine lv_ifnullN (tgt := 134) hx hb dX11_digest_124 (by decide) ?_
                  refine lv_iinc (v := (x3 + 1)) (lv' := [(3, .int (x3 + 1)), (4, .null), (0, .ref (a 0)), (1, .long x1)]) hx hb dX11_digest_134 hl (k := 3) rfl rfl (by decide) rfl (fun ls hl => ?_)
                  refine lv_goto (tgt := 107) hx hb dX11_digest_137 (by decide) ?_
                  exact ih107 x1 (x3 + 1) _ _ _ _ h hW (lv_sub hl [2, 3, 0] rfl)
                · have h := oq_some q16 h
                  refine lv_astore (lv' := [(4, .ref (d (6 * j15))), (0, .ref (a 0)), (1, .long x1), (3, .int x3)]) hx hb dX11_digest_120 hl (by decide) rfl (fun ls hl => ?_)
                  refine lv_aload hx hb dX11_digest_122 (lv_at hl 0 rfl) ?_
                  refine lv_ifnull hx hb dX11_digest_124 ?_
                  refine lv_aload hx hb dX11_digest_127 (lv_at hl 0 rfl) ?_
                  refine lv_lload_n hx hb dX11_digest_129 rfl (lv_at hl 2 rfl) ?_
                  obtain ⟨hi17, h⟩ := cN_some h
                  obtain ⟨r18, hc20, h⟩ := bq_some h
                  refine cV_l (ci := 5) (rest := []) hF hW mw_X11_418 (c_X5_mix l K a d hi17 hc20) ⟨Nat.le_of_ble_eq_true rfl, Nat.le_of_ble_eq_true rfl⟩ rfl rfl (pR_0 K a d _ _ hi17) rfl hl.1 rfl (Nat.le_of_ble_eq_true rfl) dX11_digest_130 ⟨Nat.le_of_ble_eq_true rfl, Nat.le_of_ble_eq_true rfl⟩ (fun _ H locs hW => ?_)
                  refine lv_lstore_n (lv' := [(1, .long r18), (4, .ref (d (6 * j15))), (0, .ref (a 0)), (3, .int x3)]) hx hb dX11_digest_133 rfl hl (by decide) rfl (fun ls hl => ?_)
                  refine lv_iinc (v := (x3 + 1)) (lv' := [(3, .int (x3 + 1)), (1, .long r18), (4, .ref (d (6 * j15))), (0, .ref (a 0))]) hx hb dX11_digest_134 hl (k := 3) rfl rfl (by decide) rfl (fun ls hl => ?_)
                  refine lv_goto (tgt := 107) hx hb dX11_digest_137 (by decide) ?_
                  exact ih107 r18 (x3 + 1) _ _ _ _ h hW (lv_sub hl [3, 1, 0] rfl)
          intro x1 x3 M H locs ls h hW hl
          rw [f_X11_digest_36] at h
          refine lv_iload_n hx hb dX11_digest_36 rfl (lv_at hl 2 rfl) ?_
          refine lv_aload_n hx hb dX11_digest_37 rfl (lv_at hl 0 rfl) ?_
          refine g_X11_19 hF hW dX11_digest_38 ?_
          refine g_X11_409 hF hW dX11_digest_41 ?_
          refine lv_icmp_ge (tgt := 86) hx hb dX11_digest_44 (by decide) (fun q3 => ?_) (fun q3 => ?_)
          · have h := ifp q3 h
            refine lv_aload_n hx hb dX11_digest_86 rfl (lv_at hl 0 rfl) ?_
            refine g_X11_45 hF hW dX11_digest_87 ?_
            refine g_X11_314 hF hW dX11_digest_90 ?_
            refine lv_lload_n hx hb dX11_digest_93 rfl (lv_at hl 1 rfl) ?_
            refine lv_aload_n hx hb dX11_digest_94 rfl (lv_at hl 0 rfl) ?_
            refine g_X11_19 hF hW dX11_digest_95 ?_
            refine g_X11_149 hF hW dX11_digest_98 ?_
            obtain ⟨r4, hc6, h⟩ := bq_some h
            refine cV_l (ci := 7) (q0 := 27) (rest := []) hF hW mw_X11_414 (c_X7_mix l K a d hc6) ⟨Nat.le_of_ble_eq_true rfl, Nat.le_of_ble_eq_true rfl⟩ rfl rfl (pC_27 K a d _) rfl hl.1 rfl (Nat.le_of_ble_eq_true rfl) dX11_digest_101 ⟨Nat.le_of_ble_eq_true rfl, Nat.le_of_ble_eq_true rfl⟩ (fun _ H locs hW => ?_)
            refine lv_lstore_n (lv' := [(1, .long r4), (0, .ref (a 0)), (3, .int x3)]) hx hb dX11_digest_104 rfl hl (by decide) rfl (fun ls hl => ?_)
            refine lv_iconst (v := 0) hx hb dX11_digest_105 (by decide) ?_
            refine lv_istore_n (lv' := [(3, .int 0), (1, .long r4), (0, .ref (a 0))]) hx hb dX11_digest_106 rfl hl (by decide) rfl (fun ls hl => ?_)
            exact J107 100000 r4 0 _ _ _ _ h hW (lv_sub hl [2, 1, 0] rfl)
          · have h := ifn q3 h
            refine lv_iconst (v := 0) hx hb dX11_digest_47 (by decide) ?_
            refine lv_istore (lv' := [(4, .int 0), (0, .ref (a 0)), (1, .long x1), (3, .int x3)]) hx hb dX11_digest_48 hl (by decide) rfl (fun ls hl => ?_)
            exact J50 100000 x1 x3 0 _ _ _ _ h hW (lv_sub hl [1, 2, 3, 0] rfl)
      intro x1 x3 M H locs ls h hW hl
      rw [f_X11_digest_6] at h
      refine lv_iload_n hx hb dX11_digest_6 rfl (lv_at hl 2 rfl) ?_
      refine lv_iconst (v := 3) hx hb dX11_digest_7 (by decide) ?_
      refine lv_icmp_ge (tgt := 34) hx hb dX11_digest_8 (by decide) (fun q1 => ?_) (fun q1 => ?_)
      · have h := ifp q1 h
        refine lv_iconst (v := 0) hx hb dX11_digest_34 (by decide) ?_
        refine lv_istore_n (lv' := [(3, .int 0), (0, .ref (a 0)), (1, .long x1)]) hx hb dX11_digest_35 rfl hl (by decide) rfl (fun ls hl => ?_)
        exact J36 100000 x1 0 _ _ _ _ h hW (lv_sub hl [1, 2, 0] rfl)
      · have h := ifn q1 h
        refine lv_ldc2 hx hb hF.2.2.2.1 (hF.2.2.1 _ kl_X11_412) dX11_digest_11 ?_
        refine lv_lload_n hx hb dX11_digest_14 rfl (lv_at hl 1 rfl) ?_
        refine lv_lmul hx hb dX11_digest_15 ?_
        refine lv_aload_n hx hb dX11_digest_16 rfl (lv_at hl 0 rfl) ?_
        refine g_X11_10 hF hW dX11_digest_17 ?_
        refine g_X11_117 hF hW dX11_digest_20 ?_
        refine lv_iload_n hx hb dX11_digest_23 rfl (lv_at hl 2 rfl) ?_
        obtain ⟨q2, h⟩ := ck_some h
        refine w_ild hF hW (pC_2 K a d _) q2 dX11_digest_24 ?_
        refine lv_i2l hx hb dX11_digest_25 rfl ?_
        refine lv_ladd hx hb dX11_digest_26 ?_
        refine lv_lstore_n (lv' := [(1, .long ((31 * x1) + (M.1 2 x3.toNatClampNeg).toInt64)), (0, .ref (a 0)), (3, .int x3)]) hx hb dX11_digest_27 rfl hl (by decide) rfl (fun ls hl => ?_)
        refine lv_iinc (v := (x3 + 1)) (lv' := [(3, .int (x3 + 1)), (1, .long ((31 * x1) + (M.1 2 x3.toNatClampNeg).toInt64)), (0, .ref (a 0))]) hx hb dX11_digest_28 hl (k := 2) rfl rfl (by decide) rfl (fun ls hl => ?_)
        refine lv_goto (tgt := 6) hx hb dX11_digest_31 (by decide) ?_
        exact ih6 ((31 * x1) + (M.1 2 x3.toNatClampNeg).toInt64) (x3 + 1) _ _ _ _ h hW (lv_sub hl [2, 1, 0] rfl)
  unfold f_X11_digest at h
  refine lv_ldc2 hx hb hF.2.2.2.1 (hF.2.2.1 _ kl_X11_410) dX11_digest_0 ?_
  refine lv_lstore_n (lv' := [(1, .long 17), (0, .ref (a 0))]) hx hb dX11_digest_3 rfl hl (by decide) rfl (fun ls hl => ?_)
  refine lv_iconst (v := 0) hx hb dX11_digest_4 (by decide) ?_
  refine lv_istore_n (lv' := [(3, .int 0), (1, .long 17), (0, .ref (a 0))]) hx hb dX11_digest_5 rfl hl (by decide) rfl (fun ls hl => ?_)
  exact J6 100000 17 0 _ _ _ _ h hW (lv_sub hl [2, 1, 0] rfl)
set_option maxRecDepth 100000 in
set_option maxHeartbeats 1000000 in
theorem c_X11_perform (l : Launch) (K : Kx) (a d : Nat → Nat) {M M0 : Mem} {x1 : Int32} {r0 : Int32} (h : f_X11_perform M x1 = some (r0, M0)) : CMi l yX11_perform cX11_perform 10 (some .int) ({ frames := 3, cells := 0, slots := 0, locals := 71 } : Room) K [.ref (a 0), .int x1] (wC K a d M) (fun _ => wC K a d M0) r0 := by
  refine cs_i (by decide +kernel) (Nat.le_of_ble_eq_true rfl) ?_
  intro p e s m args below meth c A ls hF hr hk hnm hW hl
  have hx := hF.1
  have hb := hF.2.1
  have hl : lv_has ls 10 [(0, .ref (a 0)), (1, .int x1)] := hl
  obtain ⟨H, hH⟩ : ∃ z, z = s.heap := ⟨_, rfl⟩
  rw [← hH] at hW ⊢
  have J18 : ∀ (x1 : Int32) (x2 : Int32) (M : Mem) (H : Heap) (locs : List Loc) (ls : Array Slot), f_X11_perform_18 x1 x2 M = some (r0, M0) → Wd K A s (wC K a d M) H locs → lv_has ls 10 [(0, .ref (a 0)), (1, .int x1), (2, .int x2)] → W p l e ({ frames := 3, cells := 0, slots := 0, locals := 71 } : Room) s m args below meth c H locs 0 0 (EndI K A (fun _ => wC K a d M0) r0 below args s ({ frames := 3, cells := 0, slots := 0, locals := 71 } : Room)) (F0 m 18 ls []) := by
    have J71 : ∀ (x1 : Int32) (x3 : Int32) (x4 : Int64) (x6 : Int64) (M : Mem) (H : Heap) (locs : List Loc) (ls : Array Slot), f_X11_perform_71 x1 x3 x4 x6 M = some (r0, M0) → Wd K A s (wC K a d M) H locs → lv_has ls 10 [(0, .ref (a 0)), (1, .int x1), (3, .int x3), (4, .long x4), (6, .long x6)] → W p l e ({ frames := 3, cells := 0, slots := 0, locals := 71 } : Room) s m args below meth c H locs 0 0 (EndI K A (fun _ => wC K a d M0) r0 below args s ({ frames := 3, cells := 0, slots := 0, locals := 71 } : Room)) (F0 m 71 ls []) := by
      intro x1 x3 x4 x6 M H locs ls h hW hl
      unfold f_X11_perform_71 at h
      refine lv_aload_n hx hb dX11_perform_71 rfl (lv_at hl 0 rfl) ?_
      refine lv_iload_n hx hb dX11_perform_72 rfl (lv_at hl 1 rfl) ?_
      refine lv_iconst (v := 0) hx hb dX11_perform_73 (by decide) ?_
      obtain ⟨r21, hc23, h⟩ := bq_some h
      refine cV_i (ci := 11) (q0 := 0) (rest := []) hF hW mw_X11_454 (c_X11_lackAt l K a d hc23) ⟨Nat.le_of_ble_eq_true rfl, Nat.le_of_ble_eq_true rfl⟩ rfl rfl (pC_0 K a d _) rfl hl.1 rfl (Nat.le_of_ble_eq_true rfl) dX11_perform_74 ⟨Nat.le_of_ble_eq_true rfl, Nat.le_of_ble_eq_true rfl⟩ (fun _ H locs hW => ?_)
      refine lv_istore_n (lv' := [(2, .int r21), (0, .ref (a 0)), (1, .int x1), (3, .int x3), (4, .long x4), (6, .long x6)]) hx hb dX11_perform_77 rfl hl (by decide) rfl (fun ls hl => ?_)
      refine lv_iload_n hx hb dX11_perform_78 rfl (lv_at hl 0 rfl) ?_
      refine lv_if_eq (tgt := 84) hx hb dX11_perform_79 (by decide) (fun q24 => ?_) (fun q24 => ?_)
      · have h := ifp q24 h
        refine lv_aload_n hx hb dX11_perform_84 rfl (lv_at hl 1 rfl) ?_
        refine lv_aload_n hx hb dX11_perform_85 rfl (lv_at hl 1 rfl) ?_
        refine g_X11_63 hF hW dX11_perform_86 ?_
        refine lv_iload_n hx hb dX11_perform_89 rfl (lv_at hl 2 rfl) ?_
        refine lv_iconst (v := 0) hx hb dX11_perform_90 (by decide) ?_
        obtain ⟨r25, hc27, h⟩ := bq_some h
        refine cV_i (ci := 9) (q0 := 38) (rest := [.ref (a 0)]) hF hW mw_X11_463 (c_X9_arrayAt l K a d hc27) ⟨Nat.le_of_ble_eq_true rfl, Nat.le_of_ble_eq_true rfl⟩ rfl rfl (pC_38 K a d _) rfl hl.1 rfl (Nat.le_of_ble_eq_true rfl) dX11_perform_91 ⟨Nat.le_of_ble_eq_true rfl, Nat.le_of_ble_eq_true rfl⟩ (fun _ H locs hW => ?_)
        obtain ⟨r28, hc30, h⟩ := bq_some h
        refine cV_q (ci := 11) (q0 := 0) (rest := []) hF hW mw_X11_155 (c_X11_rackOf l K a d hc30) ⟨Nat.le_of_ble_eq_true rfl, Nat.le_of_ble_eq_true rfl⟩ rfl rfl (pC_0 K a d _) rfl hl.1 rfl (Nat.le_of_ble_eq_true rfl) dX11_perform_94 ⟨Nat.le_of_ble_eq_true rfl, Nat.le_of_ble_eq_true rfl⟩ (fun _ H locs hW => ?_)
        refine q_split (fun q32 => ?_) (fun j31 q32 => ?_)
        · have h := oq_none q32 h
          refine lv_astoreN (lv' := [(8, .null), (2, .int r21), (0, .ref (a 0)), (1, .int x1), (3, .int x3), (4, .long x4), (6, .long x6)]) hx hb dX11_perform_97 hl (by decide) rfl (fun ls hl => ?_)
          refine lv_aloadN hx hb dX11_perform_99 (lv_at hl 0 rfl) ?_
          refine lv_ifnullN (tgt := 145) hx hb dX11_perform_101 (by decide) ?_
          refine lv_iconst (v := 0) hx hb dX11_perform_145 (by decide) ?_
          obtain ⟨rfl, rfl⟩ := Prod.mk.inj (Option.some.inj h)
          exact rt_i hF hr hk rfl (fun _ => 0) hW rfl dX11_perform_146
        · have h := oq_some q32 h
          refine lv_astore (lv' := [(8, .ref (d (6 * j31))), (2, .int r21), (0, .ref (a 0)), (1, .int x1), (3, .int x3), (4, .long x4), (6, .long x6)]) hx hb dX11_perform_97 hl (by decide) rfl (fun ls hl => ?_)
          refine lv_aload hx hb dX11_perform_99 (lv_at hl 0 rfl) ?_
          refine lv_ifnull hx hb dX11_perform_101 ?_
          refine lv_iload_n hx hb dX11_perform_104 rfl (lv_at hl 3 rfl) ?_
          refine lv_iconst (v := 3) hx hb dX11_perform_105 (by decide) ?_
          refine lv_imul hx hb dX11_perform_106 ?_
          refine lv_istore (lv' := [(9, .int (x1 * 3)), (8, .ref (d (6 * j31))), (2, .int r21), (0, .ref (a 0)), (1, .int x1), (3, .int x3), (4, .long x4), (6, .long x6)]) hx hb dX11_perform_107 hl (by decide) rfl (fun ls hl => ?_)
          refine lv_aload hx hb dX11_perform_109 (lv_at hl 1 rfl) ?_
          refine lv_aload_n hx hb dX11_perform_111 rfl (lv_at hl 3 rfl) ?_
          refine g_X11_63 hF hW dX11_perform_112 ?_
          refine g_X11_466 hF hW dX11_perform_115 ?_
          refine lv_iload hx hb dX11_perform_118 (lv_at hl 0 rfl) ?_
          obtain ⟨q33, h⟩ := ck_some h
          refine w_lld hF hW (pC_39 K a d _) q33 dX11_perform_120 ?_
          refine lv_l2i hx hb dX11_perform_121 rfl ?_
          refine lv_aload_n hx hb dX11_perform_122 rfl (lv_at hl 3 rfl) ?_
          refine g_X11_63 hF hW dX11_perform_123 ?_
          refine g_X11_469 hF hW dX11_perform_126 ?_
          refine lv_iload hx hb dX11_perform_129 (lv_at hl 0 rfl) ?_
          obtain ⟨q34, h⟩ := ck_some h
          refine w_lld hF hW (pC_40 K a d _) q34 dX11_perform_131 ?_
          refine lv_l2i hx hb dX11_perform_132 rfl ?_
          refine lv_aload_n hx hb dX11_perform_133 rfl (lv_at hl 3 rfl) ?_
          refine lv_iload_n hx hb dX11_perform_134 rfl (lv_at hl 5 rfl) ?_
          refine lv_lload hx hb dX11_perform_135 (lv_at hl 6 rfl) ?_
          refine lv_lload hx hb dX11_perform_137 (lv_at hl 7 rfl) ?_
          obtain ⟨r35, hc37, h⟩ := bq_some h
          refine cV_l (ci := 11) (q0 := 0) (rest := [.int (M.2.1 40 (x1 * 3).toNatClampNeg).toInt32, .int (M.2.1 39 (x1 * 3).toNatClampNeg).toInt32, .ref (d (6 * j31))]) hF hW mw_X11_472 (c_X11_outcome l K a d hc37) ⟨Nat.le_of_ble_eq_true rfl, Nat.le_of_ble_eq_true rfl⟩ rfl rfl (pC_0 K a d _) rfl hl.1 rfl (Nat.le_of_ble_eq_true rfl) dX11_perform_139 ⟨Nat.le_of_ble_eq_true rfl, Nat.le_of_ble_eq_true rfl⟩ (fun _ H locs hW => ?_)
          obtain ⟨hi38, h⟩ := cN_some h
          obtain ⟨M40, hc41, h⟩ := bm_some h
          refine cV_v (ci := 5) (rest := []) hF hW mw_X11_236 (c_X5_store l K a d hi38 hc41) ⟨Nat.le_of_ble_eq_true rfl, Nat.le_of_ble_eq_true rfl⟩ rfl rfl (pR_0 K a d _ _ hi38) rfl hl.1 rfl (Nat.le_of_ble_eq_true rfl) dX11_perform_142 ⟨Nat.le_of_ble_eq_true rfl, Nat.le_of_ble_eq_true rfl⟩ (fun _ H locs hW => ?_)
          refine lv_iconst (v := 0) hx hb dX11_perform_145 (by decide) ?_
          obtain ⟨rfl, rfl⟩ := Prod.mk.inj (Option.some.inj h)
          exact rt_i hF hr hk rfl (fun _ => 0) hW rfl dX11_perform_146
      · have h := ifn q24 h
        refine lv_iload_n hx hb dX11_perform_82 rfl (lv_at hl 0 rfl) ?_
        obtain ⟨rfl, rfl⟩ := Prod.mk.inj (Option.some.inj h)
        exact rt_i hF hr hk rfl (fun _ => 0) hW rfl dX11_perform_83
    intro x1 x2 M H locs ls h hW hl
    unfold f_X11_perform_18 at h
    refine lv_iload_n hx hb dX11_perform_18 rfl (lv_at hl 2 rfl) ?_
    refine lv_if_eq (tgt := 24) hx hb dX11_perform_19 (by decide) (fun q8 => ?_) (fun q8 => ?_)
    · have h := ifp q8 h
      refine lv_aload_n hx hb dX11_perform_24 rfl (lv_at hl 0 rfl) ?_
      refine g_X11_54 hF hW dX11_perform_25 ?_
      refine lv_iload_n hx hb dX11_perform_28 rfl (lv_at hl 1 rfl) ?_
      obtain ⟨r9, hc11, h⟩ := bq_some h
      refine cV_i (ci := 0) (q0 := 34) (rest := []) hF hW mw_X11_253 (c_X0_actNode l K a d hc11) ⟨Nat.le_of_ble_eq_true rfl, Nat.le_of_ble_eq_true rfl⟩ rfl rfl (pC_34 K a d _) rfl hl.1 rfl (Nat.le_of_ble_eq_true rfl) dX11_perform_29 ⟨Nat.le_of_ble_eq_true rfl, Nat.le_of_ble_eq_true rfl⟩ (fun _ H locs hW => ?_)
      refine lv_istore_n (lv' := [(3, .int r9), (0, .ref (a 0)), (1, .int x1), (2, .int x2)]) hx hb dX11_perform_32 rfl hl (by decide) rfl (fun ls hl => ?_)
      refine lv_aload_n hx hb dX11_perform_33 rfl (lv_at hl 1 rfl) ?_
      refine lv_iload_n hx hb dX11_perform_34 rfl (lv_at hl 2 rfl) ?_
      refine lv_iconst (v := 1) hx hb dX11_perform_35 (by decide) ?_
      obtain ⟨r12, hc14, h⟩ := bq_some h
      refine cV_l (ci := 11) (q0 := 0) (rest := []) hF hW mw_X11_457 (c_X11_loadAt l K a d hc14) ⟨Nat.le_of_ble_eq_true rfl, Nat.le_of_ble_eq_true rfl⟩ rfl rfl (pC_0 K a d _) rfl hl.1 rfl (Nat.le_of_ble_eq_true rfl) dX11_perform_36 ⟨Nat.le_of_ble_eq_true rfl, Nat.le_of_ble_eq_true rfl⟩ (fun _ H locs hW => ?_)
      refine lv_lstore (lv' := [(4, .long r12), (3, .int r9), (0, .ref (a 0)), (1, .int x1), (2, .int x2)]) hx hb dX11_perform_39 hl (by decide) rfl (fun ls hl => ?_)
      refine lv_aload_n hx hb dX11_perform_41 rfl (lv_at hl 2 rfl) ?_
      refine lv_iload_n hx hb dX11_perform_42 rfl (lv_at hl 3 rfl) ?_
      refine lv_iconst (v := 2) hx hb dX11_perform_43 (by decide) ?_
      obtain ⟨r15, hc17, h⟩ := bq_some h
      refine cV_l (ci := 11) (q0 := 0) (rest := []) hF hW mw_X11_457 (c_X11_loadAt l K a d hc17) ⟨Nat.le_of_ble_eq_true rfl, Nat.le_of_ble_eq_true rfl⟩ rfl rfl (pC_0 K a d _) rfl hl.1 rfl (Nat.le_of_ble_eq_true rfl) dX11_perform_44 ⟨Nat.le_of_ble_eq_true rfl, Nat.le_of_ble_eq_true rfl⟩ (fun _ H locs hW => ?_)
      refine lv_lstore (lv' := [(6, .long r15), (4, .long r12), (3, .int r9), (0, .ref (a 0)), (1, .int x1), (2, .int x2)]) hx hb dX11_perform_47 hl (by decide) rfl (fun ls hl => ?_)
      refine lv_aload_n hx hb dX11_perform_49 rfl (lv_at hl 3 rfl) ?_
      refine g_X11_19 hF hW dX11_perform_50 ?_
      refine g_X11_460 hF hW dX11_perform_53 ?_
      refine lv_iload_n hx hb dX11_perform_56 rfl (lv_at hl 2 rfl) ?_
      obtain ⟨q18, h⟩ := ck_some h
      refine w_ild hF hW (pC_12 K a d _) q18 dX11_perform_57 ?_
      refine lv_iconst (v := 3) hx hb dX11_perform_58 (by decide) ?_
      refine lv_icmp_ne (tgt := 71) hx hb dX11_perform_59 (by decide) (fun q19 => ?_) (fun q19 => ?_)
      · have h := ifn q19 h
        exact J71 x1 r9 r12 r15 _ _ _ _ h hW (lv_sub hl [3, 4, 2, 1, 0] rfl)
      · have h := ifp q19 h
        refine lv_lload hx hb dX11_perform_62 (lv_at hl 0 rfl) ?_
        refine lv_lconst (v := 0) hx hb dX11_perform_64 (by decide) ?_
        refine ll_ne (tgt := 71) hx hb dX11_perform_65 dX11_perform_66 (by decide) (fun q20 => ?_) (fun q20 => ?_)
        · have h := ifn q20 h
          exact J71 x1 r9 r12 r15 _ _ _ _ h hW (lv_sub hl [3, 4, 2, 1, 0] rfl)
        · have h := ifp q20 h
          refine lv_iconst (v := 4) hx hb dX11_perform_69 (by decide) ?_
          obtain ⟨rfl, rfl⟩ := Prod.mk.inj (Option.some.inj h)
          exact rt_i hF hr hk rfl (fun _ => 0) hW rfl dX11_perform_70
    · have h := ifn q8 h
      refine lv_iload_n hx hb dX11_perform_22 rfl (lv_at hl 2 rfl) ?_
      obtain ⟨rfl, rfl⟩ := Prod.mk.inj (Option.some.inj h)
      exact rt_i hF hr hk rfl (fun _ => 0) hW rfl dX11_perform_23
  unfold f_X11_perform at h
  refine lv_aload_n hx hb dX11_perform_0 rfl (lv_at hl 0 rfl) ?_
  refine lv_iload_n hx hb dX11_perform_1 rfl (lv_at hl 1 rfl) ?_
  refine lv_iconst (v := 1) hx hb dX11_perform_2 (by decide) ?_
  obtain ⟨r1, hc3, h⟩ := bq_some h
  refine cV_i (ci := 11) (q0 := 0) (rest := []) hF hW mw_X11_454 (c_X11_lackAt l K a d hc3) ⟨Nat.le_of_ble_eq_true rfl, Nat.le_of_ble_eq_true rfl⟩ rfl rfl (pC_0 K a d _) rfl hl.1 rfl (Nat.le_of_ble_eq_true rfl) dX11_perform_3 ⟨Nat.le_of_ble_eq_true rfl, Nat.le_of_ble_eq_true rfl⟩ (fun _ H locs hW => ?_)
  refine lv_istore_n (lv' := [(2, .int r1), (0, .ref (a 0)), (1, .int x1)]) hx hb dX11_perform_6 rfl hl (by decide) rfl (fun ls hl => ?_)
  refine lv_iload_n hx hb dX11_perform_7 rfl (lv_at hl 0 rfl) ?_
  refine lv_if_ne (tgt := 18) hx hb dX11_perform_8 (by decide) (fun q4 => ?_) (fun q4 => ?_)
  · have h := ifn q4 h
    exact J18 x1 r1 _ _ _ _ h hW (lv_sub hl [1, 2, 0] rfl)
  · have h := ifp q4 h
    refine lv_aload_n hx hb dX11_perform_11 rfl (lv_at hl 1 rfl) ?_
    refine lv_iload_n hx hb dX11_perform_12 rfl (lv_at hl 2 rfl) ?_
    refine lv_iconst (v := 2) hx hb dX11_perform_13 (by decide) ?_
    obtain ⟨r5, hc7, h⟩ := bq_some h
    refine cV_i (ci := 11) (q0 := 0) (rest := []) hF hW mw_X11_454 (c_X11_lackAt l K a d hc7) ⟨Nat.le_of_ble_eq_true rfl, Nat.le_of_ble_eq_true rfl⟩ rfl rfl (pC_0 K a d _) rfl hl.1 rfl (Nat.le_of_ble_eq_true rfl) dX11_perform_14 ⟨Nat.le_of_ble_eq_true rfl, Nat.le_of_ble_eq_true rfl⟩ (fun _ H locs hW => ?_)
    refine lv_istore_n (lv' := [(2, .int r5), (0, .ref (a 0)), (1, .int x1)]) hx hb dX11_perform_17 rfl hl (by decide) rfl (fun ls hl => ?_)
    exact J18 x1 r5 _ _ _ _ h hW (lv_sub hl [1, 2, 0] rfl)
set_option maxRecDepth 100000 in
set_option maxHeartbeats 1000000 in
theorem c_X11_run (l : Launch) (K : Kx) (a d : Nat → Nat) {M M0 : Mem} {x1 : Bool} {r0 : Int32} (h : f_X11_run M x1 = some (r0, M0)) : CMi l yX11_run cX11_run 5 (some .int) ({ frames := 543, cells := 0, slots := 0, locals := 27064 } : Room) K [.ref (a 0), .int (bI x1)] (wC K a d M) (fun _ => wC K a d M0) r0 := by
  refine cs_i (by decide +kernel) (Nat.le_of_ble_eq_true rfl) ?_
  intro p e s m args below meth c A ls hF hr hk hnm hW hl
  have hx := hF.1
  have hb := hF.2.1
  have hl : lv_has ls 5 [(0, .ref (a 0)), (1, .int (bI x1))] := hl
  obtain ⟨H, hH⟩ : ∃ z, z = s.heap := ⟨_, rfl⟩
  rw [← hH] at hW ⊢
  have J32 : ∀ (n32 : Nat) (x1 : Bool) (x2 : Int32) (x3 : Int32) (M : Mem) (H : Heap) (locs : List Loc) (ls : Array Slot), f_X11_run_32 n32 x1 x2 x3 M = some (r0, M0) → Wd K A s (wC K a d M) H locs → lv_has ls 5 [(0, .ref (a 0)), (1, .int (bI x1)), (2, .int x2), (3, .int x3)] → W p l e ({ frames := 543, cells := 0, slots := 0, locals := 27064 } : Room) s m args below meth c H locs 0 0 (EndI K A (fun _ => wC K a d M0) r0 below args s ({ frames := 543, cells := 0, slots := 0, locals := 27064 } : Room)) (F0 m 32 ls []) := by
    intro n32
    induction n32 with
    | zero => intro x1 x2 x3 M H locs ls h; exact absurd h (by simp [f_X11_run_32])
    | succ n32 ih32 =>
      have J91 : ∀ (x2 : Int32) (M : Mem) (H : Heap) (locs : List Loc) (ls : Array Slot), f_X11_run_91 x2 M = some (r0, M0) → Wd K A s (wC K a d M) H locs → lv_has ls 5 [(0, .ref (a 0)), (2, .int x2)] → W p l e ({ frames := 543, cells := 0, slots := 0, locals := 27064 } : Room) s m args below meth c H locs 0 0 (EndI K A (fun _ => wC K a d M0) r0 below args s ({ frames := 543, cells := 0, slots := 0, locals := 27064 } : Room)) (F0 m 91 ls []) := by
        intro x2 M H locs ls h hW hl
        unfold f_X11_run_91 at h
        refine lv_iload_n hx hb dX11_run_91 rfl (lv_at hl 1 rfl) ?_
        refine lv_if_ne (tgt := 102) hx hb dX11_run_92 (by decide) (fun q20 => ?_) (fun q20 => ?_)
        · have h := ifn q20 h
          refine lv_aload_n hx hb dX11_run_102 rfl (lv_at hl 0 rfl) ?_
          refine lv_iload_n hx hb dX11_run_103 rfl (lv_at hl 1 rfl) ?_
          obtain ⟨r21, M22, hc23, h⟩ := bd_some h
          refine cV_i (ci := 11) (q0 := 0) (rest := []) hF hW mw_X11_163 (c_X11_meet l K a d hc23) ⟨Nat.le_of_ble_eq_true rfl, Nat.le_of_ble_eq_true rfl⟩ rfl rfl (pC_0 K a d _) rfl hl.1 rfl (Nat.le_of_ble_eq_true rfl) dX11_run_104 ⟨Nat.le_of_ble_eq_true rfl, Nat.le_of_ble_eq_true rfl⟩ (fun _ H locs hW => ?_)
          obtain ⟨rfl, rfl⟩ := Prod.mk.inj (Option.some.inj h)
          exact rt_i hF hr hk rfl (fun _ => 0) hW rfl dX11_run_107
        · have h := ifp q20 h
          refine lv_aload_n hx hb dX11_run_95 rfl (lv_at hl 0 rfl) ?_
          refine g_X11_103 hF hW dX11_run_96 ?_
          refine lv_goto (tgt := 107) hx hb dX11_run_99 (by decide) ?_
          obtain ⟨rfl, rfl⟩ := Prod.mk.inj (Option.some.inj h)
          exact rt_i hF hr hk rfl (fun _ => 0) hW rfl dX11_run_107
      intro x1 x2 x3 M H locs ls h hW hl
      rw [f_X11_run_32] at h
      refine lv_iload_n hx hb dX11_run_32 rfl (lv_at hl 3 rfl) ?_
      refine lv_aload_n hx hb dX11_run_33 rfl (lv_at hl 0 rfl) ?_
      refine g_X11_54 hF hW dX11_run_34 ?_
      refine g_X11_248 hF hW dX11_run_37 ?_
      refine lv_icmp_ge (tgt := 91) hx hb dX11_run_40 (by decide) (fun q8 => ?_) (fun q8 => ?_)
      · have h := ifp q8 h
        exact J91 x2 _ _ _ _ h hW (lv_sub hl [0, 2] rfl)
      · have h := ifn q8 h
        refine lv_iload_n hx hb dX11_run_43 rfl (lv_at hl 2 rfl) ?_
        refine lv_if_ne (tgt := 91) hx hb dX11_run_44 (by decide) (fun q9 => ?_) (fun q9 => ?_)
        · have h := ifn q9 h
          exact J91 x2 _ _ _ _ h hW (lv_sub hl [0, 2] rfl)
        · have h := ifp q9 h
          refine lv_aload_n hx hb dX11_run_47 rfl (lv_at hl 0 rfl) ?_
          refine lv_iload_n hx hb dX11_run_48 rfl (lv_at hl 3 rfl) ?_
          refine lv_iload_n hx hb dX11_run_49 rfl (lv_at hl 1 rfl) ?_
          obtain ⟨r10, M11, hc12, h⟩ := bd_some h
          refine cV_i (ci := 11) (q0 := 0) (rest := []) hF hW mw_X11_249 (c_X11_visitAt l K a d hc12) ⟨Nat.le_of_ble_eq_true rfl, Nat.le_of_ble_eq_true rfl⟩ rfl rfl (pC_0 K a d _) rfl hl.1 rfl (Nat.le_of_ble_eq_true rfl) dX11_run_50 ⟨Nat.le_of_ble_eq_true rfl, Nat.le_of_ble_eq_true rfl⟩ (fun _ H locs hW => ?_)
          refine lv_istore (lv' := [(4, .int r10), (0, .ref (a 0)), (1, .int (bI x1)), (2, .int x2), (3, .int x3)]) hx hb dX11_run_53 hl (by decide) rfl (fun ls hl => ?_)
          refine lv_aload_n hx hb dX11_run_55 rfl (lv_at hl 1 rfl) ?_
          refine lv_iload hx hb dX11_run_56 (lv_at hl 0 rfl) ?_
          obtain ⟨r13, M14, hc15, h⟩ := bd_some h
          refine cV_i (ci := 11) (q0 := 0) (rest := []) hF hW mw_X11_379 (c_X11_perform l K a d hc15) ⟨Nat.le_of_ble_eq_true rfl, Nat.le_of_ble_eq_true rfl⟩ rfl rfl (pC_0 K a d _) rfl hl.1 rfl (Nat.le_of_ble_eq_true rfl) dX11_run_58 ⟨Nat.le_of_ble_eq_true rfl, Nat.le_of_ble_eq_true rfl⟩ (fun _ H locs hW => ?_)
          refine lv_istore_n (lv' := [(2, .int r13), (4, .int r10), (0, .ref (a 0)), (1, .int (bI x1)), (3, .int x3)]) hx hb dX11_run_61 rfl hl (by decide) rfl (fun ls hl => ?_)
          refine lv_iload_n hx hb dX11_run_62 rfl (lv_at hl 0 rfl) ?_
          refine lv_if_ne (tgt := 79) hx hb dX11_run_63 (by decide) (fun q16 => ?_) (fun q16 => ?_)
          · have h := ifn q16 h
            refine lv_aload_n hx hb dX11_run_79 rfl (lv_at hl 2 rfl) ?_
            refine lv_iload hx hb dX11_run_80 (lv_at hl 1 rfl) ?_
            obtain ⟨M18, hc19, h⟩ := bm_some h
            refine cV_v (ci := 11) (q0 := 0) (rest := []) hF hW mw_X11_382 (c_X11_endAt l K a d hc19) ⟨Nat.le_of_ble_eq_true rfl, Nat.le_of_ble_eq_true rfl⟩ rfl rfl (pC_0 K a d _) rfl hl.1 rfl (Nat.le_of_ble_eq_true rfl) dX11_run_82 ⟨Nat.le_of_ble_eq_true rfl, Nat.le_of_ble_eq_true rfl⟩ (fun _ H locs hW => ?_)
            refine lv_iinc (v := (x3 + 1)) (lv' := [(3, .int (x3 + 1)), (2, .int r13), (4, .int r10), (0, .ref (a 0)), (1, .int (bI x1))]) hx hb dX11_run_85 hl (k := 4) rfl rfl (by decide) rfl (fun ls hl => ?_)
            refine lv_goto (tgt := 32) hx hb dX11_run_88 (by decide) ?_
            exact ih32 x1 r13 (x3 + 1) _ _ _ _ h hW (lv_sub hl [3, 4, 1, 0] rfl)
          · have h := ifp q16 h
            refine lv_aload_n hx hb dX11_run_66 rfl (lv_at hl 2 rfl) ?_
            refine lv_dup hx hb dX11_run_67 rfl ?_
            refine g_X11_103 hF hW dX11_run_68 ?_
            refine lv_iconst (v := 1) hx hb dX11_run_71 (by decide) ?_
            refine lv_iadd hx hb dX11_run_72 ?_
            refine s_X11_103 (x := ((M14.1 103 0) + 1)) hF hW dX11_run_73 (fun H locs hW => ?_)
            refine lv_goto (tgt := 85) hx hb dX11_run_76 (by decide) ?_
            refine lv_iinc (v := (x3 + 1)) (lv' := [(3, .int (x3 + 1)), (2, .int r13), (4, .int r10), (0, .ref (a 0)), (1, .int (bI x1))]) hx hb dX11_run_85 hl (k := 4) rfl rfl (by decide) rfl (fun ls hl => ?_)
            refine lv_goto (tgt := 32) hx hb dX11_run_88 (by decide) ?_
            exact ih32 x1 r13 (x3 + 1) _ _ _ _ h hW (lv_sub hl [3, 4, 1, 0] rfl)
  unfold f_X11_run at h
  refine lv_aload_n hx hb dX11_run_0 rfl (lv_at hl 0 rfl) ?_
  obtain ⟨r1, M2, hc3, h⟩ := bd_some h
  refine cV_i (ci := 11) (q0 := 0) (rest := []) hF hW mw_X11_244 (c_X11_tooMany l K a d hc3) ⟨Nat.le_of_ble_eq_true rfl, Nat.le_of_ble_eq_true rfl⟩ rfl rfl (pC_0 K a d _) rfl hl.1 rfl (Nat.le_of_ble_eq_true rfl) dX11_run_1 ⟨Nat.le_of_ble_eq_true rfl, Nat.le_of_ble_eq_true rfl⟩ (fun _ H locs hW => ?_)
  refine lz_eq (tgt := 10) hx hb dX11_run_4 (by decide) (fun q4 => ?_) (fun q4 => ?_)
  · have h := ifn q4 h
    refine lv_aload_n hx hb dX11_run_10 rfl (lv_at hl 0 rfl) ?_
    refine g_X11_63 hF hW dX11_run_11 ?_
    obtain ⟨M6, hc7, h⟩ := bm_some h
    refine cV_v (ci := 9) (q0 := 38) (rest := []) hF hW mw_X11_378 (c_X9_refresh l K a d hc7) ⟨Nat.le_of_ble_eq_true rfl, Nat.le_of_ble_eq_true rfl⟩ rfl rfl (pC_38 K a d _) rfl hl.1 rfl (Nat.le_of_ble_eq_true rfl) dX11_run_14 ⟨Nat.le_of_ble_eq_true rfl, Nat.le_of_ble_eq_true rfl⟩ (fun _ H locs hW => ?_)
    refine lv_iconst (v := 0) hx hb dX11_run_17 (by decide) ?_
    refine lv_istore_n (lv' := [(2, .int 0), (0, .ref (a 0)), (1, .int (bI x1))]) hx hb dX11_run_18 rfl hl (by decide) rfl (fun ls hl => ?_)
    refine lv_aload_n hx hb dX11_run_19 rfl (lv_at hl 1 rfl) ?_
    refine lv_iconst (v := 0) hx hb dX11_run_20 (by decide) ?_
    refine s_X11_103 (x := 0) hF hW dX11_run_21 (fun H locs hW => ?_)
    refine lv_aload_n hx hb dX11_run_24 rfl (lv_at hl 1 rfl) ?_
    refine lv_bipush (v := (-9)) hx hb dX11_run_25 (by decide) ?_
    refine s_X11_106 (x := (-9)) hF hW dX11_run_27 (fun H locs hW => ?_)
    refine lv_iconst (v := 0) hx hb dX11_run_30 (by decide) ?_
    refine lv_istore_n (lv' := [(3, .int 0), (2, .int 0), (0, .ref (a 0)), (1, .int (bI x1))]) hx hb dX11_run_31 rfl hl (by decide) rfl (fun ls hl => ?_)
    exact J32 100000 x1 0 0 _ _ _ _ h hW (lv_sub hl [2, 3, 1, 0] rfl)
  · have h := ifp q4 h
    refine lv_bipush (v := (-6)) hx hb dX11_run_7 (by decide) ?_
    obtain ⟨rfl, rfl⟩ := Prod.mk.inj (Option.some.inj h)
    exact rt_i hF hr hk rfl (fun _ => 0) hW rfl dX11_run_9
