set_option maxRecDepth 100000 in
set_option maxHeartbeats 1000000 in
theorem c_J9_floorDiv_f86c9 (l : Launch) (K : Kx) {ws : va_W} {x0 : Int64} {x2 : Int64} {r0 : Int64} (h : f_J9_floorDiv_f86c9 x0 x2 = some r0) : CMl l yJ9_floorDiv_f86c9 cJ9_floorDiv_f86c9 6 ({ frames := 0, cells := 0, slots := 0, locals := 0 } : Room) K [.long x0, .long x2] ws (fun _ => ws) r0 := by
  refine cs_lF (by decide +kernel) (Nat.le_of_ble_eq_true rfl) ?_
  intro p e s m args below meth c A ls hF hr hk hnm hW hl
  have hx := hF.1
  have hb := hF.2.1
  have hl : lv_has ls 6 [(0, .long x0), (2, .long x2)] := hl
  obtain ⟨H, hH⟩ : ∃ z, z = s.heap := ⟨_, rfl⟩
  rw [← hH] at hW ⊢
  unfold f_J9_floorDiv_f86c9 at h
  refine lv_lload_n hx hb dJ9_floorDiv_f86c9_0 rfl (lv_at hl 0 rfl) ?_
  refine lv_lload_n hx hb dJ9_floorDiv_f86c9_1 rfl (lv_at hl 1 rfl) ?_
  obtain ⟨q1, h⟩ := nzL_some h
  refine lv_ldiv hx hb dJ9_floorDiv_f86c9_2 q1 ?_
  refine lv_lstore (lv' := [(4, .long (x0 / x2)), (0, .long x0), (2, .long x2)]) hx hb dJ9_floorDiv_f86c9_3 hl (by decide) rfl (fun ls hl => ?_)
  refine lv_lload_n hx hb dJ9_floorDiv_f86c9_5 rfl (lv_at hl 1 rfl) ?_
  refine lv_lload_n hx hb dJ9_floorDiv_f86c9_6 rfl (lv_at hl 2 rfl) ?_
  refine lv_lxor hx hb dJ9_floorDiv_f86c9_7 ?_
  refine lv_lconst (v := 0) hx hb dJ9_floorDiv_f86c9_8 (by decide) ?_
  refine ll_ge (tgt := 27) hx hb dJ9_floorDiv_f86c9_9 dJ9_floorDiv_f86c9_10 (by decide) (fun q2 => ?_) (fun q2 => ?_)
  · have h := ifp q2 h
    refine lv_lload hx hb dJ9_floorDiv_f86c9_27 (lv_at hl 0 rfl) ?_
    obtain rfl := Option.some.inj h
    exact rt_l hF hr hk (fun _ => 0) hW rfl dJ9_floorDiv_f86c9_29
  · have h := ifn q2 h
    refine lv_lload hx hb dJ9_floorDiv_f86c9_13 (lv_at hl 0 rfl) ?_
    refine lv_lload_n hx hb dJ9_floorDiv_f86c9_15 rfl (lv_at hl 2 rfl) ?_
    refine lv_lmul hx hb dJ9_floorDiv_f86c9_16 ?_
    refine lv_lload_n hx hb dJ9_floorDiv_f86c9_17 rfl (lv_at hl 1 rfl) ?_
    refine ll_eq (tgt := 27) hx hb dJ9_floorDiv_f86c9_18 dJ9_floorDiv_f86c9_19 (by decide) (fun q3 => ?_) (fun q3 => ?_)
    · have h := ifp q3 h
      refine lv_lload hx hb dJ9_floorDiv_f86c9_27 (lv_at hl 0 rfl) ?_
      obtain rfl := Option.some.inj h
      exact rt_l hF hr hk (fun _ => 0) hW rfl dJ9_floorDiv_f86c9_29
    · have h := ifn q3 h
      refine lv_lload hx hb dJ9_floorDiv_f86c9_22 (lv_at hl 0 rfl) ?_
      refine lv_lconst (v := 1) hx hb dJ9_floorDiv_f86c9_24 (by decide) ?_
      refine lv_lsub hx hb dJ9_floorDiv_f86c9_25 ?_
      obtain rfl := Option.some.inj h
      exact rt_l hF hr hk (fun _ => 0) hW rfl dJ9_floorDiv_f86c9_26
set_option maxRecDepth 100000 in
set_option maxHeartbeats 1000000 in
theorem c_J9_max_7cf53 (l : Launch) (K : Kx) {ws : va_W} {x0 : Int32} {x1 : Int32} {r0 : Int32} (h : f_J9_max_7cf53 x0 x1 = some r0) : CMi l yJ9_max_7cf53 cJ9_max_7cf53 2 (some .int) ({ frames := 0, cells := 0, slots := 0, locals := 0 } : Room) K [.int x0, .int x1] ws (fun _ => ws) r0 := by
  refine cs_iF (by decide +kernel) (Nat.le_of_ble_eq_true rfl) ?_
  intro p e s m args below meth c A ls hF hr hk hnm hW hl
  have hx := hF.1
  have hb := hF.2.1
  have hl : lv_has ls 2 [(0, .int x0), (1, .int x1)] := hl
  obtain ⟨H, hH⟩ : ∃ z, z = s.heap := ⟨_, rfl⟩
  rw [← hH] at hW ⊢
  unfold f_J9_max_7cf53 at h
  refine lv_iload_n hx hb dJ9_max_7cf53_0 rfl (lv_at hl 0 rfl) ?_
  refine lv_iload_n hx hb dJ9_max_7cf53_1 rfl (lv_at hl 1 rfl) ?_
  refine lv_icmp_lt (tgt := 9) hx hb dJ9_max_7cf53_2 (by decide) (fun q1 => ?_) (fun q1 => ?_)
  · have h := ifp q1 h
    refine lv_iload_n hx hb dJ9_max_7cf53_9 rfl (lv_at hl 1 rfl) ?_
    obtain rfl := Option.some.inj h
    exact rt_i hF hr hk rfl (fun _ => 0) hW rfl dJ9_max_7cf53_10
  · have h := ifn q1 h
    refine lv_iload_n hx hb dJ9_max_7cf53_5 rfl (lv_at hl 0 rfl) ?_
    refine lv_goto (tgt := 10) hx hb dJ9_max_7cf53_6 (by decide) ?_
    obtain rfl := Option.some.inj h
    exact rt_i hF hr hk rfl (fun _ => 0) hW rfl dJ9_max_7cf53_10
set_option maxRecDepth 100000 in
set_option maxHeartbeats 1000000 in
theorem c_J9_max_f86c9 (l : Launch) (K : Kx) {ws : va_W} {x0 : Int64} {x2 : Int64} {r0 : Int64} (h : f_J9_max_f86c9 x0 x2 = some r0) : CMl l yJ9_max_f86c9 cJ9_max_f86c9 4 ({ frames := 0, cells := 0, slots := 0, locals := 0 } : Room) K [.long x0, .long x2] ws (fun _ => ws) r0 := by
  refine cs_lF (by decide +kernel) (Nat.le_of_ble_eq_true rfl) ?_
  intro p e s m args below meth c A ls hF hr hk hnm hW hl
  have hx := hF.1
  have hb := hF.2.1
  have hl : lv_has ls 4 [(0, .long x0), (2, .long x2)] := hl
  obtain ⟨H, hH⟩ : ∃ z, z = s.heap := ⟨_, rfl⟩
  rw [← hH] at hW ⊢
  unfold f_J9_max_f86c9 at h
  refine lv_lload_n hx hb dJ9_max_f86c9_0 rfl (lv_at hl 0 rfl) ?_
  refine lv_lload_n hx hb dJ9_max_f86c9_1 rfl (lv_at hl 1 rfl) ?_
  refine ll_lt (tgt := 10) hx hb dJ9_max_f86c9_2 dJ9_max_f86c9_3 (by decide) (fun q1 => ?_) (fun q1 => ?_)
  · have h := ifp q1 h
    refine lv_lload_n hx hb dJ9_max_f86c9_10 rfl (lv_at hl 1 rfl) ?_
    obtain rfl := Option.some.inj h
    exact rt_l hF hr hk (fun _ => 0) hW rfl dJ9_max_f86c9_11
  · have h := ifn q1 h
    refine lv_lload_n hx hb dJ9_max_f86c9_6 rfl (lv_at hl 0 rfl) ?_
    refine lv_goto (tgt := 11) hx hb dJ9_max_f86c9_7 (by decide) ?_
    obtain rfl := Option.some.inj h
    exact rt_l hF hr hk (fun _ => 0) hW rfl dJ9_max_f86c9_11
set_option maxRecDepth 100000 in
set_option maxHeartbeats 1000000 in
theorem c_J9_min_7cf53 (l : Launch) (K : Kx) {ws : va_W} {x0 : Int32} {x1 : Int32} {r0 : Int32} (h : f_J9_min_7cf53 x0 x1 = some r0) : CMi l yJ9_min_7cf53 cJ9_min_7cf53 2 (some .int) ({ frames := 0, cells := 0, slots := 0, locals := 0 } : Room) K [.int x0, .int x1] ws (fun _ => ws) r0 := by
  refine cs_iF (by decide +kernel) (Nat.le_of_ble_eq_true rfl) ?_
  intro p e s m args below meth c A ls hF hr hk hnm hW hl
  have hx := hF.1
  have hb := hF.2.1
  have hl : lv_has ls 2 [(0, .int x0), (1, .int x1)] := hl
  obtain ⟨H, hH⟩ : ∃ z, z = s.heap := ⟨_, rfl⟩
  rw [← hH] at hW ⊢
  unfold f_J9_min_7cf53 at h
  refine lv_iload_n hx hb dJ9_min_7cf53_0 rfl (lv_at hl 0 rfl) ?_
  refine lv_iload_n hx hb dJ9_min_7cf53_1 rfl (lv_at hl 1 rfl) ?_
  refine lv_icmp_gt (tgt := 9) hx hb dJ9_min_7cf53_2 (by decide) (fun q1 => ?_) (fun q1 => ?_)
  · have h := ifp q1 h
    refine lv_iload_n hx hb dJ9_min_7cf53_9 rfl (lv_at hl 1 rfl) ?_
    obtain rfl := Option.some.inj h
    exact rt_i hF hr hk rfl (fun _ => 0) hW rfl dJ9_min_7cf53_10
  · have h := ifn q1 h
    refine lv_iload_n hx hb dJ9_min_7cf53_5 rfl (lv_at hl 0 rfl) ?_
    refine lv_goto (tgt := 10) hx hb dJ9_min_7cf53_6 (by decide) ?_
    obtain rfl := Option.some.inj h
    exact rt_i hF hr hk rfl (fun _ => 0) hW rfl dJ9_min_7cf53_10
set_option maxRecDepth 100000 in
set_option maxHeartbeats 1000000 in
theorem c_J9_min_f86c9 (l : Launch) (K : Kx) {ws : va_W} {x0 : Int64} {x2 : Int64} {r0 : Int64} (h : f_J9_min_f86c9 x0 x2 = some r0) : CMl l yJ9_min_f86c9 cJ9_min_f86c9 4 ({ frames := 0, cells := 0, slots := 0, locals := 0 } : Room) K [.long x0, .long x2] ws (fun _ => ws) r0 := by
  refine cs_lF (by decide +kernel) (Nat.le_of_ble_eq_true rfl) ?_
  intro p e s m args below meth c A ls hF hr hk hnm hW hl
  have hx := hF.1
  have hb := hF.2.1
  have hl : lv_has ls 4 [(0, .long x0), (2, .long x2)] := hl
  obtain ⟨H, hH⟩ : ∃ z, z = s.heap := ⟨_, rfl⟩
  rw [← hH] at hW ⊢
  unfold f_J9_min_f86c9 at h
  refine lv_lload_n hx hb dJ9_min_f86c9_0 rfl (lv_at hl 0 rfl) ?_
  refine lv_lload_n hx hb dJ9_min_f86c9_1 rfl (lv_at hl 1 rfl) ?_
  refine ll_gt (tgt := 10) hx hb dJ9_min_f86c9_2 dJ9_min_f86c9_3 (by decide) (fun q1 => ?_) (fun q1 => ?_)
  · have h := ifp q1 h
    refine lv_lload_n hx hb dJ9_min_f86c9_10 rfl (lv_at hl 1 rfl) ?_
    obtain rfl := Option.some.inj h
    exact rt_l hF hr hk (fun _ => 0) hW rfl dJ9_min_f86c9_11
  · have h := ifn q1 h
    refine lv_lload_n hx hb dJ9_min_f86c9_6 rfl (lv_at hl 0 rfl) ?_
    refine lv_goto (tgt := 11) hx hb dJ9_min_f86c9_7 (by decide) ?_
    obtain rfl := Option.some.inj h
    exact rt_l hF hr hk (fun _ => 0) hW rfl dJ9_min_f86c9_11
set_option maxRecDepth 100000 in
set_option maxHeartbeats 1000000 in
theorem c_X12_in (l : Launch) (K : Kx) {ws : va_W} {x0 : Int64} {x2 : Int64} {x4 : Int64} {r0 : Bool} (h : f_X12_in x0 x2 x4 = some r0) : CMi l yX12_in cX12_in 6 (some .boolean) ({ frames := 0, cells := 0, slots := 0, locals := 0 } : Room) K [.long x0, .long x2, .long x4] ws (fun _ => ws) (bI r0) := by
  refine cs_i (by decide +kernel) (Nat.le_of_ble_eq_true rfl) ?_
  intro p e s m args below meth c A ls hF hr hk hnm hW hl
  have hx := hF.1
  have hb := hF.2.1
  have hl : lv_has ls 6 [(0, .long x0), (2, .long x2), (4, .long x4)] := hl
  obtain ⟨H, hH⟩ : ∃ z, z = s.heap := ⟨_, rfl⟩
  rw [← hH] at hW ⊢
  unfold f_X12_in at h
  refine lv_lload_n hx hb dX12_in_0 rfl (lv_at hl 0 rfl) ?_
  refine lv_lload_n hx hb dX12_in_1 rfl (lv_at hl 1 rfl) ?_
  refine ll_lt (tgt := 17) hx hb dX12_in_2 dX12_in_3 (by decide) (fun q1 => ?_) (fun q1 => ?_)
  · have h := ifp q1 h
    refine lv_iconst (v := 0) hx hb dX12_in_17 (by decide) ?_
    obtain rfl := Option.some.inj h
    exact rt_i hF hr hk (bI_n false) (fun _ => 0) hW rfl dX12_in_18
  · have h := ifn q1 h
    refine lv_lload_n hx hb dX12_in_6 rfl (lv_at hl 0 rfl) ?_
    refine lv_lload hx hb dX12_in_7 (lv_at hl 2 rfl) ?_
    refine ll_gt (tgt := 17) hx hb dX12_in_9 dX12_in_10 (by decide) (fun q2 => ?_) (fun q2 => ?_)
    · have h := ifp q2 h
      refine lv_iconst (v := 0) hx hb dX12_in_17 (by decide) ?_
      obtain rfl := Option.some.inj h
      exact rt_i hF hr hk (bI_n false) (fun _ => 0) hW rfl dX12_in_18
    · have h := ifn q2 h
      refine lv_iconst (v := 1) hx hb dX12_in_13 (by decide) ?_
      refine lv_goto (tgt := 18) hx hb dX12_in_14 (by decide) ?_
      obtain rfl := Option.some.inj h
      exact rt_i hF hr hk (bI_n true) (fun _ => 0) hW rfl dX12_in_18
set_option maxRecDepth 100000 in
set_option maxHeartbeats 1000000 in
theorem c_X12_meets (l : Launch) (K : Kx) (a : Nat → Nat) {M M0 : Mem} {x1 : Int32} {r0 : Int32} (h : f_X12_meets M x1 = some (r0, M0)) : CMi l yX12_meets cX12_meets 2 (some .int) ({ frames := 0, cells := 0, slots := 0, locals := 0 } : Room) K [.ref (a 0), .int x1] (wM K a M) (fun _ => wM K a M0) r0 := by
  refine cs_i (by decide +kernel) (Nat.le_of_ble_eq_true rfl) ?_
  intro p e s m args below meth c A ls hF hr hk hnm hW hl
  have hx := hF.1
  have hb := hF.2.1
  have hl : lv_has ls 2 [(0, .ref (a 0)), (1, .int x1)] := hl
  obtain ⟨H, hH⟩ : ∃ z, z = s.heap := ⟨_, rfl⟩
  rw [← hH] at hW ⊢
  unfold f_X12_meets at h
  refine lv_aload_n hx hb dX12_meets_0 rfl (lv_at hl 0 rfl) ?_
  refine lv_iload_n hx hb dX12_meets_1 rfl (lv_at hl 1 rfl) ?_
  refine s_X12_149 (x := x1) hF hW dX12_meets_2 (fun H locs hW => ?_)
  refine lv_aload_n hx hb dX12_meets_5 rfl (lv_at hl 0 rfl) ?_
  refine g_X12_7 hF hW dX12_meets_6 ?_
  refine lv_iload_n hx hb dX12_meets_9 rfl (lv_at hl 1 rfl) ?_
  refine lv_dup2_11 hx hb dX12_meets_10 rfl rfl ?_
  obtain ⟨q1, h⟩ := ck_some h
  refine w_ild hF hW (pM_1 K a _) q1 dX12_meets_11 ?_
  refine lv_iconst (v := 1) hx hb dX12_meets_12 (by decide) ?_
  refine lv_iadd hx hb dX12_meets_13 ?_
  obtain ⟨q2, h⟩ := ck_some h
  refine w_ist hF hW (pM_1 K a _) q2 (uM_1 K a _ _ _) dX12_meets_14 (fun H locs hW => ?_)
  refine lv_bipush (v := (-3)) hx hb dX12_meets_15 (by decide) ?_
  obtain ⟨rfl, rfl⟩ := Prod.mk.inj (Option.some.inj h)
  exact rt_i hF hr hk rfl (fun _ => 0) hW rfl dX12_meets_17
set_option maxRecDepth 100000 in
set_option maxHeartbeats 1000000 in
theorem c_X12_finding (l : Launch) (K : Kx) (a : Nat → Nat) {M : Mem}  {r0 : Int32} (h : f_X12_finding M = some r0) : CMi l yX12_finding cX12_finding 1 (some .int) ({ frames := 0, cells := 0, slots := 0, locals := 0 } : Room) K [.ref (a 0)] (wM K a M) (fun _ => wM K a M) r0 := by
  refine cs_i (by decide +kernel) (Nat.le_of_ble_eq_true rfl) ?_
  intro p e s m args below meth c A ls hF hr hk hnm hW hl
  have hx := hF.1
  have hb := hF.2.1
  have hl : lv_has ls 1 [(0, .ref (a 0))] := hl
  obtain ⟨H, hH⟩ : ∃ z, z = s.heap := ⟨_, rfl⟩
  rw [← hH] at hW ⊢
  unfold f_X12_finding at h
  refine lv_aload_n hx hb dX12_finding_0 rfl (lv_at hl 0 rfl) ?_
  refine g_X12_149 hF hW dX12_finding_1 ?_
  obtain rfl := Option.some.inj h
  exact rt_i hF hr hk rfl (fun _ => 0) hW rfl dX12_finding_4
set_option maxRecDepth 100000 in
set_option maxHeartbeats 1000000 in
theorem c_X12_findings (l : Launch) (K : Kx) (a : Nat → Nat) {M : Mem} {x1 : Int32} {r0 : Int32} (h : f_X12_findings M x1 = some r0) : CMi l yX12_findings cX12_findings 2 (some .int) ({ frames := 1, cells := 0, slots := 0, locals := 25 } : Room) K [.ref (a 0), .int x1] (wM K a M) (fun _ => wM K a M) r0 := by
  refine cs_i (by decide +kernel) (Nat.le_of_ble_eq_true rfl) ?_
  intro p e s m args below meth c A ls hF hr hk hnm hW hl
  have hx := hF.1
  have hb := hF.2.1
  have hl : lv_has ls 2 [(0, .ref (a 0)), (1, .int x1)] := hl
  obtain ⟨H, hH⟩ : ∃ z, z = s.heap := ⟨_, rfl⟩
  rw [← hH] at hW ⊢
  unfold f_X12_findings at h
  refine lv_iload_n hx hb dX12_findings_0 rfl (lv_at hl 1 rfl) ?_
  refine lv_i2l hx hb dX12_findings_1 rfl ?_
  refine lv_lconst (v := 1) hx hb dX12_findings_2 (by decide) ?_
  refine lv_ldc2 hx hb hF.2.2.2.1 (hF.2.2.1 _ kl_X12_152) dX12_findings_3 ?_
  obtain ⟨r1, hc3, h⟩ := bq_some h
  refine cS_i (rest := []) hF hW mw_X12_154 (c_X12_in l K hc3) ⟨Nat.le_of_ble_eq_true rfl, Nat.le_of_ble_eq_true rfl⟩ rfl hl.1 rfl (Nat.le_of_ble_eq_true rfl) dX12_findings_6 ⟨Nat.le_of_ble_eq_true rfl, Nat.le_of_ble_eq_true rfl⟩ (fun _ H locs hW => ?_)
  refine lz_eq (tgt := 21) hx hb dX12_findings_9 (by decide) (fun q4 => ?_) (fun q4 => ?_)
  · have h := ifn q4 h
    refine lv_iconst (v := (-1)) hx hb dX12_findings_21 (by decide) ?_
    obtain rfl := Option.some.inj h
    exact rt_i hF hr hk rfl (fun _ => 0) hW rfl dX12_findings_22
  · have h := ifp q4 h
    refine lv_aload_n hx hb dX12_findings_12 rfl (lv_at hl 0 rfl) ?_
    refine g_X12_7 hF hW dX12_findings_13 ?_
    refine lv_iload_n hx hb dX12_findings_16 rfl (lv_at hl 1 rfl) ?_
    obtain ⟨q5, h⟩ := ck_some h
    refine w_ild hF hW (pM_1 K a _) q5 dX12_findings_17 ?_
    refine lv_goto (tgt := 22) hx hb dX12_findings_18 (by decide) ?_
    obtain rfl := Option.some.inj h
    exact rt_i hF hr hk rfl (fun _ => 0) hW rfl dX12_findings_22
set_option maxRecDepth 100000 in
set_option maxHeartbeats 1000000 in
theorem c_X12_size (l : Launch) (K : Kx) (a : Nat → Nat) {M M0 : Mem} {x1 : Int32} {x2 : Int32} {r0 : Int32} (h : f_X12_size M x1 x2 = some (r0, M0)) : CMi l yX12_size cX12_size 4 (some .int) ({ frames := 1, cells := 0, slots := 0, locals := 25 } : Room) K [.ref (a 0), .int x1, .int x2] (wM K a M) (fun _ => wM K a M0) r0 := by
  refine cs_i (by decide +kernel) (Nat.le_of_ble_eq_true rfl) ?_
  intro p e s m args below meth c A ls hF hr hk hnm hW hl
  have hx := hF.1
  have hb := hF.2.1
  have hl : lv_has ls 4 [(0, .ref (a 0)), (1, .int x1), (2, .int x2)] := hl
  obtain ⟨H, hH⟩ : ∃ z, z = s.heap := ⟨_, rfl⟩
  rw [← hH] at hW ⊢
  unfold f_X12_size at h
  refine lv_iload_n hx hb dX12_size_0 rfl (lv_at hl 1 rfl) ?_
  refine lv_i2l hx hb dX12_size_1 rfl ?_
  refine lv_lconst (v := 0) hx hb dX12_size_2 (by decide) ?_
  refine lv_ldc2 hx hb hF.2.2.2.1 (hF.2.2.1 _ kl_X12_158) dX12_size_3 ?_
  obtain ⟨r1, hc3, h⟩ := bq_some h
  refine cS_i (rest := []) hF hW mw_X12_154 (c_X12_in l K hc3) ⟨Nat.le_of_ble_eq_true rfl, Nat.le_of_ble_eq_true rfl⟩ rfl hl.1 rfl (Nat.le_of_ble_eq_true rfl) dX12_size_6 ⟨Nat.le_of_ble_eq_true rfl, Nat.le_of_ble_eq_true rfl⟩ (fun _ H locs hW => ?_)
  refine lz_eq (tgt := 26) hx hb dX12_size_9 (by decide) (fun q4 => ?_) (fun q4 => ?_)
  · have h := ifn q4 h
    refine lv_sipush (v := (-1000)) hx hb dX12_size_26 (by decide) ?_
    obtain ⟨rfl, rfl⟩ := Prod.mk.inj (Option.some.inj h)
    exact rt_i hF hr hk rfl (fun _ => 0) hW rfl dX12_size_29
  · have h := ifp q4 h
    refine lv_iload_n hx hb dX12_size_12 rfl (lv_at hl 2 rfl) ?_
    refine lv_i2l hx hb dX12_size_13 rfl ?_
    refine lv_ldc2 hx hb hF.2.2.2.1 (hF.2.2.1 _ kl_X12_160) dX12_size_14 ?_
    refine lv_ldc2 hx hb hF.2.2.2.1 (hF.2.2.1 _ kl_X12_162) dX12_size_17 ?_
    obtain ⟨r5, hc7, h⟩ := bq_some h
    refine cS_i (rest := []) hF hW mw_X12_154 (c_X12_in l K hc7) ⟨Nat.le_of_ble_eq_true rfl, Nat.le_of_ble_eq_true rfl⟩ rfl hl.1 rfl (Nat.le_of_ble_eq_true rfl) dX12_size_20 ⟨Nat.le_of_ble_eq_true rfl, Nat.le_of_ble_eq_true rfl⟩ (fun _ H locs hW => ?_)
    refine lz_ne (tgt := 30) hx hb dX12_size_23 (by decide) (fun q8 => ?_) (fun q8 => ?_)
    · have h := ifp q8 h
      refine lv_aload_n hx hb dX12_size_30 rfl (lv_at hl 0 rfl) ?_
      refine g_X12_13 hF hW dX12_size_31 ?_
      refine lv_iload_n hx hb dX12_size_34 rfl (lv_at hl 1 rfl) ?_
      obtain ⟨q9, h⟩ := ck_some h
      refine w_ild hF hW (pM_2 K a _) q9 dX12_size_35 ?_
      refine lv_istore_n (lv' := [(3, .int (M.1 2 x1.toNatClampNeg)), (0, .ref (a 0)), (1, .int x1), (2, .int x2)]) hx hb dX12_size_36 rfl hl (by decide) rfl (fun ls hl => ?_)
      refine lv_aload_n hx hb dX12_size_37 rfl (lv_at hl 1 rfl) ?_
      refine g_X12_13 hF hW dX12_size_38 ?_
      refine lv_iload_n hx hb dX12_size_41 rfl (lv_at hl 2 rfl) ?_
      refine lv_iload_n hx hb dX12_size_42 rfl (lv_at hl 3 rfl) ?_
      obtain ⟨q10, h⟩ := ck_some h
      refine w_ist hF hW (pM_2 K a _) q10 (uM_2 K a _ _ _) dX12_size_43 (fun H locs hW => ?_)
      refine lv_iload_n hx hb dX12_size_44 rfl (lv_at hl 0 rfl) ?_
      obtain ⟨rfl, rfl⟩ := Prod.mk.inj (Option.some.inj h)
      exact rt_i hF hr hk rfl (fun _ => 0) hW rfl dX12_size_45
    · have h := ifn q8 h
      refine lv_sipush (v := (-1000)) hx hb dX12_size_26 (by decide) ?_
      obtain ⟨rfl, rfl⟩ := Prod.mk.inj (Option.some.inj h)
      exact rt_i hF hr hk rfl (fun _ => 0) hW rfl dX12_size_29
set_option maxRecDepth 100000 in
set_option maxHeartbeats 1000000 in
theorem c_X12_term (l : Launch) (K : Kx) (a : Nat → Nat) {M M0 : Mem} {x1 : Int32} {x2 : Int32} {r0 : Int32} (h : f_X12_term M x1 x2 = some (r0, M0)) : CMi l yX12_term cX12_term 3 (some .int) ({ frames := 1, cells := 0, slots := 0, locals := 25 } : Room) K [.ref (a 0), .int x1, .int x2] (wM K a M) (fun _ => wM K a M0) r0 := by
  refine cs_i (by decide +kernel) (Nat.le_of_ble_eq_true rfl) ?_
  intro p e s m args below meth c A ls hF hr hk hnm hW hl
  have hx := hF.1
  have hb := hF.2.1
  have hl : lv_has ls 3 [(0, .ref (a 0)), (1, .int x1), (2, .int x2)] := hl
  obtain ⟨H, hH⟩ : ∃ z, z = s.heap := ⟨_, rfl⟩
  rw [← hH] at hW ⊢
  unfold f_X12_term at h
  refine lv_iload_n hx hb dX12_term_0 rfl (lv_at hl 1 rfl) ?_
  refine lv_i2l hx hb dX12_term_1 rfl ?_
  refine lv_lconst (v := 0) hx hb dX12_term_2 (by decide) ?_
  refine lv_ldc2 hx hb hF.2.2.2.1 (hF.2.2.1 _ kl_X12_164) dX12_term_3 ?_
  obtain ⟨r1, hc3, h⟩ := bq_some h
  refine cS_i (rest := []) hF hW mw_X12_154 (c_X12_in l K hc3) ⟨Nat.le_of_ble_eq_true rfl, Nat.le_of_ble_eq_true rfl⟩ rfl hl.1 rfl (Nat.le_of_ble_eq_true rfl) dX12_term_6 ⟨Nat.le_of_ble_eq_true rfl, Nat.le_of_ble_eq_true rfl⟩ (fun _ H locs hW => ?_)
  refine lz_eq (tgt := 26) hx hb dX12_term_9 (by decide) (fun q4 => ?_) (fun q4 => ?_)
  · have h := ifn q4 h
    refine lv_iconst (v := (-1)) hx hb dX12_term_26 (by decide) ?_
    obtain ⟨rfl, rfl⟩ := Prod.mk.inj (Option.some.inj h)
    exact rt_i hF hr hk rfl (fun _ => 0) hW rfl dX12_term_27
  · have h := ifp q4 h
    refine lv_iload_n hx hb dX12_term_12 rfl (lv_at hl 2 rfl) ?_
    refine lv_i2l hx hb dX12_term_13 rfl ?_
    refine lv_ldc2 hx hb hF.2.2.2.1 (hF.2.2.1 _ kl_X12_166) dX12_term_14 ?_
    refine lv_ldc2 hx hb hF.2.2.2.1 (hF.2.2.1 _ kl_X12_168) dX12_term_17 ?_
    obtain ⟨r5, hc7, h⟩ := bq_some h
    refine cS_i (rest := []) hF hW mw_X12_154 (c_X12_in l K hc7) ⟨Nat.le_of_ble_eq_true rfl, Nat.le_of_ble_eq_true rfl⟩ rfl hl.1 rfl (Nat.le_of_ble_eq_true rfl) dX12_term_20 ⟨Nat.le_of_ble_eq_true rfl, Nat.le_of_ble_eq_true rfl⟩ (fun _ H locs hW => ?_)
    refine lz_ne (tgt := 28) hx hb dX12_term_23 (by decide) (fun q8 => ?_) (fun q8 => ?_)
    · have h := ifp q8 h
      refine lv_aload_n hx hb dX12_term_28 rfl (lv_at hl 0 rfl) ?_
      refine g_X12_16 hF hW dX12_term_29 ?_
      refine lv_iload_n hx hb dX12_term_32 rfl (lv_at hl 1 rfl) ?_
      refine lv_iload_n hx hb dX12_term_33 rfl (lv_at hl 2 rfl) ?_
      obtain ⟨q9, h⟩ := ck_some h
      refine w_ist hF hW (pM_3 K a _) q9 (uM_3 K a _ _ _) dX12_term_34 (fun H locs hW => ?_)
      refine lv_iconst (v := 1) hx hb dX12_term_35 (by decide) ?_
      obtain ⟨rfl, rfl⟩ := Prod.mk.inj (Option.some.inj h)
      exact rt_i hF hr hk rfl (fun _ => 0) hW rfl dX12_term_36
    · have h := ifn q8 h
      refine lv_iconst (v := (-1)) hx hb dX12_term_26 (by decide) ?_
      obtain ⟨rfl, rfl⟩ := Prod.mk.inj (Option.some.inj h)
      exact rt_i hF hr hk rfl (fun _ => 0) hW rfl dX12_term_27
set_option maxRecDepth 100000 in
set_option maxHeartbeats 1000000 in
theorem c_X12_sum (l : Launch) (K : Kx) (a : Nat → Nat) {M M0 : Mem}  {r0 : Int32} (h : f_X12_sum M = some (r0, M0)) : CMi l yX12_sum cX12_sum 2 (some .int) ({ frames := 0, cells := 0, slots := 0, locals := 0 } : Room) K [.ref (a 0)] (wM K a M) (fun _ => wM K a M0) r0 := by
  refine cs_i (by decide +kernel) (Nat.le_of_ble_eq_true rfl) ?_
  intro p e s m args below meth c A ls hF hr hk hnm hW hl
  have hx := hF.1
  have hb := hF.2.1
  have hl : lv_has ls 2 [(0, .ref (a 0))] := hl
  obtain ⟨H, hH⟩ : ∃ z, z = s.heap := ⟨_, rfl⟩
  rw [← hH] at hW ⊢
  have J14 : ∀ (n14 : Nat) (x1 : Int32) (M : Mem) (H : Heap) (locs : List Loc) (ls : Array Slot), f_X12_sum_14 n14 x1 M = some (r0, M0) → Wd K A s (wM K a M) H locs → lv_has ls 2 [(0, .ref (a 0)), (1, .int x1)] → W p l e ({ frames := 0, cells := 0, slots := 0, locals := 0 } : Room) s m args below meth c H locs 0 0 (EndI K A (fun _ => wM K a M0) r0 below args s ({ frames := 0, cells := 0, slots := 0, locals := 0 } : Room)) (F0 m 14 ls []) := by
    intro n14
    induction n14 with
    | zero => intro x1 M H locs ls h; exact absurd h (by simp [f_X12_sum_14])
    | succ n14 ih14 =>
      intro x1 M H locs ls h hW hl
      rw [f_X12_sum_14] at h
      refine lv_iload_n hx hb dX12_sum_14 rfl (lv_at hl 1 rfl) ?_
      refine lv_bipush (v := 8) hx hb dX12_sum_15 (by decide) ?_
      refine lv_icmp_ge (tgt := 53) hx hb dX12_sum_17 (by decide) (fun q2 => ?_) (fun q2 => ?_)
      · have h := ifp q2 h
        refine lv_aload_n hx hb dX12_sum_53 rfl (lv_at hl 0 rfl) ?_
        refine lv_dup hx hb dX12_sum_54 rfl ?_
        refine g_X12_145 hF hW dX12_sum_55 ?_
        refine lv_iconst (v := 1) hx hb dX12_sum_58 (by decide) ?_
        refine lv_iadd hx hb dX12_sum_59 ?_
        refine s_X12_145 (x := ((M.1 101 0) + 1)) hF hW dX12_sum_60 (fun H locs hW => ?_)
        refine lv_aload_n hx hb dX12_sum_63 rfl (lv_at hl 0 rfl) ?_
        refine g_X12_145 hF hW dX12_sum_64 ?_
        refine lv_iconst (v := 1) hx hb dX12_sum_67 (by decide) ?_
        refine lv_isub hx hb dX12_sum_68 ?_
        obtain ⟨rfl, rfl⟩ := Prod.mk.inj (Option.some.inj h)
        exact rt_i hF hr hk rfl (fun _ => 0) hW rfl dX12_sum_69
      · have h := ifn q2 h
        refine lv_aload_n hx hb dX12_sum_20 rfl (lv_at hl 0 rfl) ?_
        refine g_X12_19 hF hW dX12_sum_21 ?_
        refine lv_bipush (v := 8) hx hb dX12_sum_24 (by decide) ?_
        refine lv_aload_n hx hb dX12_sum_26 rfl (lv_at hl 0 rfl) ?_
        refine g_X12_145 hF hW dX12_sum_27 ?_
        refine lv_imul hx hb dX12_sum_30 ?_
        refine lv_iload_n hx hb dX12_sum_31 rfl (lv_at hl 1 rfl) ?_
        refine lv_iadd hx hb dX12_sum_32 ?_
        refine lv_aload_n hx hb dX12_sum_33 rfl (lv_at hl 0 rfl) ?_
        refine g_X12_16 hF hW dX12_sum_34 ?_
        refine lv_iload_n hx hb dX12_sum_37 rfl (lv_at hl 1 rfl) ?_
        obtain ⟨q3, h⟩ := ck_some h
        refine w_ild hF hW (pM_3 K a _) q3 dX12_sum_38 ?_
        obtain ⟨q4, h⟩ := ck_some h
        refine w_ist hF hW (pM_4 K a _) q4 (uM_4 K a _ _ _) dX12_sum_39 (fun H locs hW => ?_)
        refine lv_aload_n hx hb dX12_sum_40 rfl (lv_at hl 0 rfl) ?_
        refine g_X12_16 hF hW dX12_sum_41 ?_
        refine lv_iload_n hx hb dX12_sum_44 rfl (lv_at hl 1 rfl) ?_
        refine lv_iconst (v := 0) hx hb dX12_sum_45 (by decide) ?_
        obtain ⟨q5, h⟩ := ck_some h
        refine w_ist hF hW (pM_3 K a _) q5 (uM_3 K a _ _ _) dX12_sum_46 (fun H locs hW => ?_)
        refine lv_iinc (v := (x1 + 1)) (lv' := [(1, .int (x1 + 1)), (0, .ref (a 0))]) hx hb dX12_sum_47 hl (k := 1) rfl rfl (by decide) rfl (fun ls hl => ?_)
        refine lv_goto (tgt := 14) hx hb dX12_sum_50 (by decide) ?_
        exact ih14 (x1 + 1) _ _ _ _ h hW (lv_sub hl [1, 0] rfl)
  unfold f_X12_sum at h
  refine lv_aload_n hx hb dX12_sum_0 rfl (lv_at hl 0 rfl) ?_
  refine g_X12_145 hF hW dX12_sum_1 ?_
  refine lv_bipush (v := 80) hx hb dX12_sum_4 (by decide) ?_
  refine lv_icmp_ne (tgt := 12) hx hb dX12_sum_6 (by decide) (fun q1 => ?_) (fun q1 => ?_)
  · have h := ifn q1 h
    refine lv_iconst (v := 0) hx hb dX12_sum_12 (by decide) ?_
    refine lv_istore_n (lv' := [(1, .int 0), (0, .ref (a 0))]) hx hb dX12_sum_13 rfl hl (by decide) rfl (fun ls hl => ?_)
    exact J14 100000 0 _ _ _ _ h hW (lv_sub hl [1, 0] rfl)
  · have h := ifp q1 h
    refine lv_bipush (v := (-2)) hx hb dX12_sum_9 (by decide) ?_
    obtain ⟨rfl, rfl⟩ := Prod.mk.inj (Option.some.inj h)
    exact rt_i hF hr hk rfl (fun _ => 0) hW rfl dX12_sum_11
set_option maxRecDepth 100000 in
set_option maxHeartbeats 1000000 in
theorem c_X12_isSum (l : Launch) (K : Kx) (a : Nat → Nat) {M : Mem} {x1 : Int32} {r0 : Bool} (h : f_X12_isSum M x1 = some r0) : CMi l yX12_isSum cX12_isSum 2 (some .boolean) ({ frames := 1, cells := 0, slots := 0, locals := 25 } : Room) K [.ref (a 0), .int x1] (wM K a M) (fun _ => wM K a M) (bI r0) := by
  refine cs_i (by decide +kernel) (Nat.le_of_ble_eq_true rfl) ?_
  intro p e s m args below meth c A ls hF hr hk hnm hW hl
  have hx := hF.1
  have hb := hF.2.1
  have hl : lv_has ls 2 [(0, .ref (a 0)), (1, .int x1)] := hl
  obtain ⟨H, hH⟩ : ∃ z, z = s.heap := ⟨_, rfl⟩
  rw [← hH] at hW ⊢
  unfold f_X12_isSum at h
  refine lv_iload_n hx hb dX12_isSum_0 rfl (lv_at hl 1 rfl) ?_
  refine lv_i2l hx hb dX12_isSum_1 rfl ?_
  refine lv_lconst (v := 0) hx hb dX12_isSum_2 (by decide) ?_
  refine lv_aload_n hx hb dX12_isSum_3 rfl (lv_at hl 0 rfl) ?_
  refine g_X12_145 hF hW dX12_isSum_4 ?_
  refine lv_iconst (v := 1) hx hb dX12_isSum_7 (by decide) ?_
  refine lv_isub hx hb dX12_isSum_8 ?_
  refine lv_i2l hx hb dX12_isSum_9 rfl ?_
  obtain ⟨r1, hc3, h⟩ := bq_some h
  refine cS_i (rest := []) hF hW mw_X12_154 (c_X12_in l K hc3) ⟨Nat.le_of_ble_eq_true rfl, Nat.le_of_ble_eq_true rfl⟩ rfl hl.1 rfl (Nat.le_of_ble_eq_true rfl) dX12_isSum_10 ⟨Nat.le_of_ble_eq_true rfl, Nat.le_of_ble_eq_true rfl⟩ (fun _ H locs hW => ?_)
  obtain rfl := Option.some.inj h
  exact rt_i hF hr hk (bI_n _) (fun _ => 0) hW rfl dX12_isSum_13
set_option maxRecDepth 100000 in
set_option maxHeartbeats 1000000 in
theorem c_X12_hasLetters (l : Launch) (K : Kx) (a : Nat → Nat) {M : Mem} {x1 : Int32} {x2 : Int32} {r0 : Bool} (h : f_X12_hasLetters M x1 x2 = some r0) : CMi l yX12_hasLetters cX12_hasLetters 5 (some .boolean) ({ frames := 0, cells := 0, slots := 0, locals := 0 } : Room) K [.ref (a 0), .int x1, .int x2] (wM K a M) (fun _ => wM K a M) (bI r0) := by
  refine cs_i (by decide +kernel) (Nat.le_of_ble_eq_true rfl) ?_
  intro p e s m args below meth c A ls hF hr hk hnm hW hl
  have hx := hF.1
  have hb := hF.2.1
  have hl : lv_has ls 5 [(0, .ref (a 0)), (1, .int x1), (2, .int x2)] := hl
  obtain ⟨H, hH⟩ : ∃ z, z = s.heap := ⟨_, rfl⟩
  rw [← hH] at hW ⊢
  have J5 : ∀ (n5 : Nat) (x1 : Int32) (x3 : Bool) (x4 : Int32) (M : Mem) (H : Heap) (locs : List Loc) (ls : Array Slot), f_X12_hasLetters_5 n5 x1 x3 x4 M = some r0 → Wd K A s (wM K a M) H locs → lv_has ls 5 [(0, .ref (a 0)), (1, .int x1), (3, .int (bI x3)), (4, .int x4)] → W p l e ({ frames := 0, cells := 0, slots := 0, locals := 0 } : Room) s m args below meth c H locs 0 0 (EndI K A (fun _ => wM K a M) (bI r0) below args s ({ frames := 0, cells := 0, slots := 0, locals := 0 } : Room)) (F0 m 5 ls []) := by
    intro n5
    induction n5 with
    | zero => intro x1 x3 x4 M H locs ls h; exact absurd h (by simp [f_X12_hasLetters_5])
    | succ n5 ih5 =>
      intro x1 x3 x4 M H locs ls h hW hl
      rw [f_X12_hasLetters_5] at h
      refine lv_iload hx hb dX12_hasLetters_5 (lv_at hl 3 rfl) ?_
      refine lv_iconst (v := 4) hx hb dX12_hasLetters_7 (by decide) ?_
      refine lv_icmp_ge (tgt := 44) hx hb dX12_hasLetters_8 (by decide) (fun q1 => ?_) (fun q1 => ?_)
      · have h := ifp q1 h
        refine lv_iload_n hx hb dX12_hasLetters_44 rfl (lv_at hl 2 rfl) ?_
        obtain rfl := Option.some.inj h
        exact rt_i hF hr hk (bI_n _) (fun _ => 0) hW rfl dX12_hasLetters_45
      · have h := ifn q1 h
        refine lv_iload_n hx hb dX12_hasLetters_11 rfl (lv_at hl 2 rfl) ?_
        refine lz_eq (tgt := 36) hx hb dX12_hasLetters_12 (by decide) (fun q2 => ?_) (fun q2 => ?_)
        · have h := ifn q2 h
          refine lv_iconst (v := 0) hx hb dX12_hasLetters_36 (by decide) ?_
          refine lv_istore_n (lv' := [(3, .int 0), (0, .ref (a 0)), (1, .int x1), (4, .int x4)]) hx hb dX12_hasLetters_37 rfl hl (by decide) rfl (fun ls hl => ?_)
          refine lv_iinc (v := (x4 + 1)) (lv' := [(4, .int (x4 + 1)), (3, .int 0), (0, .ref (a 0)), (1, .int x1)]) hx hb dX12_hasLetters_38 hl (k := 3) rfl rfl (by decide) rfl (fun ls hl => ?_)
          refine lv_goto (tgt := 5) hx hb dX12_hasLetters_41 (by decide) ?_
          exact ih5 x1 false (x4 + 1) _ _ _ _ h hW (lv_sub hl [2, 3, 1, 0] rfl)
        · have h := ifp q2 h
          refine lv_aload_n hx hb dX12_hasLetters_15 rfl (lv_at hl 0 rfl) ?_
          refine g_X12_19 hF hW dX12_hasLetters_16 ?_
          refine lv_bipush (v := 8) hx hb dX12_hasLetters_19 (by decide) ?_
          refine lv_iload_n hx hb dX12_hasLetters_21 rfl (lv_at hl 1 rfl) ?_
          refine lv_imul hx hb dX12_hasLetters_22 ?_
          refine lv_iconst (v := 4) hx hb dX12_hasLetters_23 (by decide) ?_
          refine lv_iadd hx hb dX12_hasLetters_24 ?_
          refine lv_iload hx hb dX12_hasLetters_25 (lv_at hl 3 rfl) ?_
          refine lv_iadd hx hb dX12_hasLetters_27 ?_
          obtain ⟨q3, h⟩ := ck_some h
          refine w_ild hF hW (pM_4 K a _) q3 dX12_hasLetters_28 ?_
          refine lv_if_ne (tgt := 36) hx hb dX12_hasLetters_29 (by decide) (fun q4 => ?_) (fun q4 => ?_)
          · have h := ifn q4 h
            refine lv_iconst (v := 0) hx hb dX12_hasLetters_36 (by decide) ?_
            refine lv_istore_n (lv' := [(3, .int 0), (0, .ref (a 0)), (1, .int x1), (4, .int x4)]) hx hb dX12_hasLetters_37 rfl hl (by decide) rfl (fun ls hl => ?_)
            refine lv_iinc (v := (x4 + 1)) (lv' := [(4, .int (x4 + 1)), (3, .int 0), (0, .ref (a 0)), (1, .int x1)]) hx hb dX12_hasLetters_38 hl (k := 3) rfl rfl (by decide) rfl (fun ls hl => ?_)
            refine lv_goto (tgt := 5) hx hb dX12_hasLetters_41 (by decide) ?_
            exact ih5 x1 false (x4 + 1) _ _ _ _ h hW (lv_sub hl [2, 3, 1, 0] rfl)
          · have h := ifp q4 h
            refine lv_iconst (v := 1) hx hb dX12_hasLetters_32 (by decide) ?_
            refine lv_goto (tgt := 37) hx hb dX12_hasLetters_33 (by decide) ?_
            refine lv_istore_n (lv' := [(3, .int 1), (0, .ref (a 0)), (1, .int x1), (4, .int x4)]) hx hb dX12_hasLetters_37 rfl hl (by decide) rfl (fun ls hl => ?_)
            refine lv_iinc (v := (x4 + 1)) (lv' := [(4, .int (x4 + 1)), (3, .int 1), (0, .ref (a 0)), (1, .int x1)]) hx hb dX12_hasLetters_38 hl (k := 3) rfl rfl (by decide) rfl (fun ls hl => ?_)
            refine lv_goto (tgt := 5) hx hb dX12_hasLetters_41 (by decide) ?_
            exact ih5 x1 true (x4 + 1) _ _ _ _ h hW (lv_sub hl [2, 3, 1, 0] rfl)
  unfold f_X12_hasLetters at h
  refine lv_iconst (v := 1) hx hb dX12_hasLetters_0 (by decide) ?_
  refine lv_istore_n (lv' := [(3, .int 1), (0, .ref (a 0)), (1, .int x1), (2, .int x2)]) hx hb dX12_hasLetters_1 rfl hl (by decide) rfl (fun ls hl => ?_)
  refine lv_iload_n hx hb dX12_hasLetters_2 rfl (lv_at hl 3 rfl) ?_
  refine lv_istore (lv' := [(4, .int x2), (3, .int 1), (0, .ref (a 0)), (1, .int x1), (2, .int x2)]) hx hb dX12_hasLetters_3 hl (by decide) rfl (fun ls hl => ?_)
  exact J5 100000 x1 true x2 _ _ _ _ h hW (lv_sub hl [2, 3, 1, 0] rfl)
set_option maxRecDepth 100000 in
set_option maxHeartbeats 1000000 in
theorem c_X12_valueOf (l : Launch) (K : Kx) (a : Nat → Nat) {M : Mem} {x1 : Int32} {r0 : Int64} (h : f_X12_valueOf M x1 = some r0) : CMl l yX12_valueOf cX12_valueOf 5 ({ frames := 0, cells := 0, slots := 0, locals := 0 } : Room) K [.ref (a 0), .int x1] (wM K a M) (fun _ => wM K a M) r0 := by
  refine cs_l (by decide +kernel) (Nat.le_of_ble_eq_true rfl) ?_
  intro p e s m args below meth c A ls hF hr hk hnm hW hl
  have hx := hF.1
  have hb := hF.2.1
  have hl : lv_has ls 5 [(0, .ref (a 0)), (1, .int x1)] := hl
  obtain ⟨H, hH⟩ : ∃ z, z = s.heap := ⟨_, rfl⟩
  rw [← hH] at hW ⊢
  have J14 : ∀ (n14 : Nat) (x1 : Int32) (x2 : Int64) (x4 : Int32) (M : Mem) (H : Heap) (locs : List Loc) (ls : Array Slot), f_X12_valueOf_14 n14 x1 x2 x4 M = some r0 → Wd K A s (wM K a M) H locs → lv_has ls 5 [(0, .ref (a 0)), (1, .int x1), (2, .long x2), (4, .int x4)] → W p l e ({ frames := 0, cells := 0, slots := 0, locals := 0 } : Room) s m args below meth c H locs 0 0 (EndL K A (fun _ => wM K a M) r0 below args s ({ frames := 0, cells := 0, slots := 0, locals := 0 } : Room)) (F0 m 14 ls []) := by
    intro n14
    induction n14 with
    | zero => intro x1 x2 x4 M H locs ls h; exact absurd h (by simp [f_X12_valueOf_14])
    | succ n14 ih14 =>
      have J56 : ∀ (n56 : Nat) (x1 : Int32) (x2 : Int64) (x4 : Int32) (M : Mem) (H : Heap) (locs : List Loc) (ls : Array Slot), f_X12_valueOf_56 n56 x1 x2 x4 M = some r0 → Wd K A s (wM K a M) H locs → lv_has ls 5 [(0, .ref (a 0)), (1, .int x1), (2, .long x2), (4, .int x4)] → W p l e ({ frames := 0, cells := 0, slots := 0, locals := 0 } : Room) s m args below meth c H locs 0 0 (EndL K A (fun _ => wM K a M) r0 below args s ({ frames := 0, cells := 0, slots := 0, locals := 0 } : Room)) (F0 m 56 ls []) := by
        intro n56
        induction n56 with
        | zero => intro x1 x2 x4 M H locs ls h; exact absurd h (by simp [f_X12_valueOf_56])
        | succ n56 ih56 =>
          intro x1 x2 x4 M H locs ls h hW hl
          rw [f_X12_valueOf_56] at h
          refine lv_iload hx hb dX12_valueOf_56 (lv_at hl 3 rfl) ?_
          refine lv_iconst (v := 4) hx hb dX12_valueOf_58 (by decide) ?_
          refine lv_icmp_ge (tgt := 94) hx hb dX12_valueOf_59 (by decide) (fun q5 => ?_) (fun q5 => ?_)
          · have h := ifp q5 h
            refine lv_lload_n hx hb dX12_valueOf_94 rfl (lv_at hl 2 rfl) ?_
            obtain rfl := Option.some.inj h
            exact rt_l hF hr hk (fun _ => 0) hW rfl dX12_valueOf_95
          · have h := ifn q5 h
            refine lv_lload_n hx hb dX12_valueOf_62 rfl (lv_at hl 2 rfl) ?_
            refine lv_aload_n hx hb dX12_valueOf_63 rfl (lv_at hl 0 rfl) ?_
            refine g_X12_19 hF hW dX12_valueOf_64 ?_
            refine lv_bipush (v := 8) hx hb dX12_valueOf_67 (by decide) ?_
            refine lv_iload_n hx hb dX12_valueOf_69 rfl (lv_at hl 1 rfl) ?_
            refine lv_imul hx hb dX12_valueOf_70 ?_
            refine lv_iconst (v := 4) hx hb dX12_valueOf_71 (by decide) ?_
            refine lv_iadd hx hb dX12_valueOf_72 ?_
            refine lv_iload hx hb dX12_valueOf_73 (lv_at hl 3 rfl) ?_
            refine lv_iadd hx hb dX12_valueOf_75 ?_
            obtain ⟨q6, h⟩ := ck_some h
            refine w_ild hF hW (pM_4 K a _) q6 dX12_valueOf_76 ?_
            refine lv_i2l hx hb dX12_valueOf_77 rfl ?_
            refine lv_aload_n hx hb dX12_valueOf_78 rfl (lv_at hl 0 rfl) ?_
            refine g_X12_22 hF hW dX12_valueOf_79 ?_
            refine lv_iload hx hb dX12_valueOf_82 (lv_at hl 3 rfl) ?_
            obtain ⟨q7, h⟩ := ck_some h
            refine w_lld hF hW (pM_5 K a _) q7 dX12_valueOf_84 ?_
            refine lv_lmul hx hb dX12_valueOf_85 ?_
            refine lv_ladd hx hb dX12_valueOf_86 ?_
            refine lv_lstore_n (lv' := [(2, .long (x2 + ((M.1 4 (((8 * x1) + 4) + x4).toNatClampNeg).toInt64 * (M.2.1 5 x4.toNatClampNeg)))), (0, .ref (a 0)), (1, .int x1), (4, .int x4)]) hx hb dX12_valueOf_87 rfl hl (by decide) rfl (fun ls hl => ?_)
            refine lv_iinc (v := (x4 + 1)) (lv' := [(4, .int (x4 + 1)), (2, .long (x2 + ((M.1 4 (((8 * x1) + 4) + x4).toNatClampNeg).toInt64 * (M.2.1 5 x4.toNatClampNeg)))), (0, .ref (a 0)), (1, .int x1)]) hx hb dX12_valueOf_88 hl (k := 3) rfl rfl (by decide) rfl (fun ls hl => ?_)
            refine lv_goto (tgt := 56) hx hb dX12_valueOf_91 (by decide) ?_
            exact ih56 x1 (x2 + ((M.1 4 (((8 * x1) + 4) + x4).toNatClampNeg).toInt64 * (M.2.1 5 x4.toNatClampNeg))) (x4 + 1) _ _ _ _ h hW (lv_sub hl [2, 3, 1, 0] rfl)
      intro x1 x2 x4 M H locs ls h hW hl
      rw [f_X12_valueOf_14] at h
      refine lv_iload hx hb dX12_valueOf_14 (lv_at hl 3 rfl) ?_
      refine lv_iconst (v := 3) hx hb dX12_valueOf_16 (by decide) ?_
      refine lv_icmp_ge (tgt := 53) hx hb dX12_valueOf_17 (by decide) (fun q2 => ?_) (fun q2 => ?_)
      · have h := ifp q2 h
        refine lv_iconst (v := 0) hx hb dX12_valueOf_53 (by decide) ?_
        refine lv_istore (lv' := [(4, .int 0), (0, .ref (a 0)), (1, .int x1), (2, .long x2)]) hx hb dX12_valueOf_54 hl (by decide) rfl (fun ls hl => ?_)
        exact J56 100000 x1 x2 0 _ _ _ _ h hW (lv_sub hl [1, 2, 3, 0] rfl)
      · have h := ifn q2 h
        refine lv_lload_n hx hb dX12_valueOf_20 rfl (lv_at hl 2 rfl) ?_
        refine lv_aload_n hx hb dX12_valueOf_21 rfl (lv_at hl 0 rfl) ?_
        refine g_X12_19 hF hW dX12_valueOf_22 ?_
        refine lv_bipush (v := 8) hx hb dX12_valueOf_25 (by decide) ?_
        refine lv_iload_n hx hb dX12_valueOf_27 rfl (lv_at hl 1 rfl) ?_
        refine lv_imul hx hb dX12_valueOf_28 ?_
        refine lv_iconst (v := 1) hx hb dX12_valueOf_29 (by decide) ?_
        refine lv_iadd hx hb dX12_valueOf_30 ?_
        refine lv_iload hx hb dX12_valueOf_31 (lv_at hl 3 rfl) ?_
        refine lv_iadd hx hb dX12_valueOf_33 ?_
        obtain ⟨q3, h⟩ := ck_some h
        refine w_ild hF hW (pM_4 K a _) q3 dX12_valueOf_34 ?_
        refine lv_i2l hx hb dX12_valueOf_35 rfl ?_
        refine lv_aload_n hx hb dX12_valueOf_36 rfl (lv_at hl 0 rfl) ?_
        refine g_X12_13 hF hW dX12_valueOf_37 ?_
        refine lv_iload hx hb dX12_valueOf_40 (lv_at hl 3 rfl) ?_
        obtain ⟨q4, h⟩ := ck_some h
        refine w_ild hF hW (pM_2 K a _) q4 dX12_valueOf_42 ?_
        refine lv_i2l hx hb dX12_valueOf_43 rfl ?_
        refine lv_lmul hx hb dX12_valueOf_44 ?_
        refine lv_ladd hx hb dX12_valueOf_45 ?_
        refine lv_lstore_n (lv' := [(2, .long (x2 + ((M.1 4 (((8 * x1) + 1) + x4).toNatClampNeg).toInt64 * (M.1 2 x4.toNatClampNeg).toInt64))), (0, .ref (a 0)), (1, .int x1), (4, .int x4)]) hx hb dX12_valueOf_46 rfl hl (by decide) rfl (fun ls hl => ?_)
        refine lv_iinc (v := (x4 + 1)) (lv' := [(4, .int (x4 + 1)), (2, .long (x2 + ((M.1 4 (((8 * x1) + 1) + x4).toNatClampNeg).toInt64 * (M.1 2 x4.toNatClampNeg).toInt64))), (0, .ref (a 0)), (1, .int x1)]) hx hb dX12_valueOf_47 hl (k := 3) rfl rfl (by decide) rfl (fun ls hl => ?_)
        refine lv_goto (tgt := 14) hx hb dX12_valueOf_50 (by decide) ?_
        exact ih14 x1 (x2 + ((M.1 4 (((8 * x1) + 1) + x4).toNatClampNeg).toInt64 * (M.1 2 x4.toNatClampNeg).toInt64)) (x4 + 1) _ _ _ _ h hW (lv_sub hl [2, 3, 1, 0] rfl)
  unfold f_X12_valueOf at h
  refine lv_aload_n hx hb dX12_valueOf_0 rfl (lv_at hl 0 rfl) ?_
  refine g_X12_19 hF hW dX12_valueOf_1 ?_
  refine lv_bipush (v := 8) hx hb dX12_valueOf_4 (by decide) ?_
  refine lv_iload_n hx hb dX12_valueOf_6 rfl (lv_at hl 1 rfl) ?_
  refine lv_imul hx hb dX12_valueOf_7 ?_
  obtain ⟨q1, h⟩ := ck_some h
  refine w_ild hF hW (pM_4 K a _) q1 dX12_valueOf_8 ?_
  refine lv_i2l hx hb dX12_valueOf_9 rfl ?_
  refine lv_lstore_n (lv' := [(2, .long (M.1 4 (8 * x1).toNatClampNeg).toInt64), (0, .ref (a 0)), (1, .int x1)]) hx hb dX12_valueOf_10 rfl hl (by decide) rfl (fun ls hl => ?_)
  refine lv_iconst (v := 0) hx hb dX12_valueOf_11 (by decide) ?_
  refine lv_istore (lv' := [(4, .int 0), (2, .long (M.1 4 (8 * x1).toNatClampNeg).toInt64), (0, .ref (a 0)), (1, .int x1)]) hx hb dX12_valueOf_12 hl (by decide) rfl (fun ls hl => ?_)
  exact J14 100000 x1 (M.1 4 (8 * x1).toNatClampNeg).toInt64 0 _ _ _ _ h hW (lv_sub hl [2, 3, 1, 0] rfl)
set_option maxRecDepth 100000 in
set_option maxHeartbeats 1000000 in
theorem c_X12_isNode (l : Launch) (K : Kx) (a : Nat → Nat) {M : Mem} {x1 : Int32} {r0 : Bool} (h : f_X12_isNode M x1 = some r0) : CMi l yX12_isNode cX12_isNode 2 (some .boolean) ({ frames := 1, cells := 0, slots := 0, locals := 25 } : Room) K [.ref (a 0), .int x1] (wM K a M) (fun _ => wM K a M) (bI r0) := by
  refine cs_i (by decide +kernel) (Nat.le_of_ble_eq_true rfl) ?_
  intro p e s m args below meth c A ls hF hr hk hnm hW hl
  have hx := hF.1
  have hb := hF.2.1
  have hl : lv_has ls 2 [(0, .ref (a 0)), (1, .int x1)] := hl
  obtain ⟨H, hH⟩ : ∃ z, z = s.heap := ⟨_, rfl⟩
  rw [← hH] at hW ⊢
  unfold f_X12_isNode at h
  refine lv_iload_n hx hb dX12_isNode_0 rfl (lv_at hl 1 rfl) ?_
  refine lv_i2l hx hb dX12_isNode_1 rfl ?_
  refine lv_lconst (v := 0) hx hb dX12_isNode_2 (by decide) ?_
  refine lv_aload_n hx hb dX12_isNode_3 rfl (lv_at hl 0 rfl) ?_
  refine g_X12_170 hF hW dX12_isNode_4 ?_
  refine lv_iconst (v := 1) hx hb dX12_isNode_7 (by decide) ?_
  refine lv_isub hx hb dX12_isNode_8 ?_
  refine lv_i2l hx hb dX12_isNode_9 rfl ?_
  obtain ⟨r1, hc3, h⟩ := bq_some h
  refine cS_i (rest := []) hF hW mw_X12_154 (c_X12_in l K hc3) ⟨Nat.le_of_ble_eq_true rfl, Nat.le_of_ble_eq_true rfl⟩ rfl hl.1 rfl (Nat.le_of_ble_eq_true rfl) dX12_isNode_10 ⟨Nat.le_of_ble_eq_true rfl, Nat.le_of_ble_eq_true rfl⟩ (fun _ H locs hW => ?_)
  obtain rfl := Option.some.inj h
  exact rt_i hF hr hk (bI_n _) (fun _ => 0) hW rfl dX12_isNode_13
set_option maxRecDepth 100000 in
set_option maxHeartbeats 1000000 in
theorem c_X12_isLoop (l : Launch) (K : Kx) (a : Nat → Nat) {M : Mem} {x1 : Int32} {r0 : Bool} (h : f_X12_isLoop M x1 = some r0) : CMi l yX12_isLoop cX12_isLoop 2 (some .boolean) ({ frames := 0, cells := 0, slots := 0, locals := 0 } : Room) K [.ref (a 0), .int x1] (wM K a M) (fun _ => wM K a M) (bI r0) := by
  refine cs_i (by decide +kernel) (Nat.le_of_ble_eq_true rfl) ?_
  intro p e s m args below meth c A ls hF hr hk hnm hW hl
  have hx := hF.1
  have hb := hF.2.1
  have hl : lv_has ls 2 [(0, .ref (a 0)), (1, .int x1)] := hl
  obtain ⟨H, hH⟩ : ∃ z, z = s.heap := ⟨_, rfl⟩
  rw [← hH] at hW ⊢
  unfold f_X12_isLoop at h
  refine lv_aload_n hx hb dX12_isLoop_0 rfl (lv_at hl 0 rfl) ?_
  refine g_X12_26 hF hW dX12_isLoop_1 ?_
  refine lv_iload_n hx hb dX12_isLoop_4 rfl (lv_at hl 1 rfl) ?_
  obtain ⟨q1, h⟩ := ck_some h
  refine w_ild hF hW (pM_6 K a _) q1 dX12_isLoop_5 ?_
  refine lv_if_eq (tgt := 19) hx hb dX12_isLoop_6 (by decide) (fun q2 => ?_) (fun q2 => ?_)
  · have h := ifp q2 h
    refine lv_iconst (v := 1) hx hb dX12_isLoop_19 (by decide) ?_
    refine lv_goto (tgt := 24) hx hb dX12_isLoop_20 (by decide) ?_
    obtain rfl := Option.some.inj h
    exact rt_i hF hr hk (bI_n true) (fun _ => 0) hW rfl dX12_isLoop_24
  · have h := ifn q2 h
    refine lv_aload_n hx hb dX12_isLoop_9 rfl (lv_at hl 0 rfl) ?_
    refine g_X12_26 hF hW dX12_isLoop_10 ?_
    refine lv_iload_n hx hb dX12_isLoop_13 rfl (lv_at hl 1 rfl) ?_
    obtain ⟨q3, h⟩ := ck_some h
    refine w_ild hF hW (pM_6 K a _) q3 dX12_isLoop_14 ?_
    refine lv_iconst (v := 1) hx hb dX12_isLoop_15 (by decide) ?_
    refine lv_icmp_ne (tgt := 23) hx hb dX12_isLoop_16 (by decide) (fun q4 => ?_) (fun q4 => ?_)
    · have h := ifn q4 h
      refine lv_iconst (v := 0) hx hb dX12_isLoop_23 (by decide) ?_
      obtain rfl := Option.some.inj h
      exact rt_i hF hr hk (bI_n false) (fun _ => 0) hW rfl dX12_isLoop_24
    · have h := ifp q4 h
      refine lv_iconst (v := 1) hx hb dX12_isLoop_19 (by decide) ?_
      refine lv_goto (tgt := 24) hx hb dX12_isLoop_20 (by decide) ?_
      obtain rfl := Option.some.inj h
      exact rt_i hF hr hk (bI_n true) (fun _ => 0) hW rfl dX12_isLoop_24
set_option maxRecDepth 100000 in
set_option maxHeartbeats 1000000 in
theorem c_X12_depthIn (l : Launch) (K : Kx) (a : Nat → Nat) {M : Mem} {x1 : Int32} {r0 : Int32} (h : f_X12_depthIn M x1 = some r0) : CMi l yX12_depthIn cX12_depthIn 2 (some .int) ({ frames := 1, cells := 0, slots := 0, locals := 21 } : Room) K [.ref (a 0), .int x1] (wM K a M) (fun _ => wM K a M) r0 := by
  refine cs_i (by decide +kernel) (Nat.le_of_ble_eq_true rfl) ?_
  intro p e s m args below meth c A ls hF hr hk hnm hW hl
  have hx := hF.1
  have hb := hF.2.1
  have hl : lv_has ls 2 [(0, .ref (a 0)), (1, .int x1)] := hl
  obtain ⟨H, hH⟩ : ∃ z, z = s.heap := ⟨_, rfl⟩
  rw [← hH] at hW ⊢
  unfold f_X12_depthIn at h
  refine lv_iload_n hx hb dX12_depthIn_0 rfl (lv_at hl 1 rfl) ?_
  refine lv_bipush (v := (-9)) hx hb dX12_depthIn_1 (by decide) ?_
  refine lv_icmp_ne (tgt := 10) hx hb dX12_depthIn_3 (by decide) (fun q1 => ?_) (fun q1 => ?_)
  · have h := ifn q1 h
    refine lv_aload_n hx hb dX12_depthIn_10 rfl (lv_at hl 0 rfl) ?_
    refine g_X12_32 hF hW dX12_depthIn_11 ?_
    refine lv_iload_n hx hb dX12_depthIn_14 rfl (lv_at hl 1 rfl) ?_
    obtain ⟨q2, h⟩ := ck_some h
    refine w_ild hF hW (pM_8 K a _) q2 dX12_depthIn_15 ?_
    refine lv_aload_n hx hb dX12_depthIn_16 rfl (lv_at hl 0 rfl) ?_
    refine lv_iload_n hx hb dX12_depthIn_17 rfl (lv_at hl 1 rfl) ?_
    obtain ⟨r3, hc5, h⟩ := bq_some h
    refine cV_i (ci := 12) (q0 := 0) (rest := [.int (M.1 8 x1.toNatClampNeg)]) hF hW mw_X12_173 (c_X12_isLoop l K a hc5) ⟨Nat.le_of_ble_eq_true rfl, Nat.le_of_ble_eq_true rfl⟩ rfl rfl (pM_0 K a _) rfl hl.1 rfl (Nat.le_of_ble_eq_true rfl) dX12_depthIn_18 ⟨Nat.le_of_ble_eq_true rfl, Nat.le_of_ble_eq_true rfl⟩ (fun _ H locs hW => ?_)
    refine lz_eq (tgt := 28) hx hb dX12_depthIn_21 (by decide) (fun q6 => ?_) (fun q6 => ?_)
    · have h := ifn q6 h
      refine lv_iconst (v := 0) hx hb dX12_depthIn_28 (by decide) ?_
      refine lv_iadd hx hb dX12_depthIn_29 ?_
      obtain rfl := Option.some.inj h
      exact rt_i hF hr hk rfl (fun _ => 0) hW rfl dX12_depthIn_30
    · have h := ifp q6 h
      refine lv_iconst (v := 1) hx hb dX12_depthIn_24 (by decide) ?_
      refine lv_goto (tgt := 29) hx hb dX12_depthIn_25 (by decide) ?_
      refine lv_iadd hx hb dX12_depthIn_29 ?_
      obtain rfl := Option.some.inj h
      exact rt_i hF hr hk rfl (fun _ => 0) hW rfl dX12_depthIn_30
  · have h := ifp q1 h
    refine lv_iconst (v := 0) hx hb dX12_depthIn_6 (by decide) ?_
    refine lv_goto (tgt := 30) hx hb dX12_depthIn_7 (by decide) ?_
    obtain rfl := Option.some.inj h
    exact rt_i hF hr hk rfl (fun _ => 0) hW rfl dX12_depthIn_30
set_option maxRecDepth 100000 in
set_option maxHeartbeats 1000000 in
theorem c_X12_mayHold (l : Launch) (K : Kx) (a : Nat → Nat) {M : Mem} {x1 : Int32} {r0 : Bool} (h : f_X12_mayHold M x1 = some r0) : CMi l yX12_mayHold cX12_mayHold 2 (some .boolean) ({ frames := 2, cells := 0, slots := 0, locals := 46 } : Room) K [.ref (a 0), .int x1] (wM K a M) (fun _ => wM K a M) (bI r0) := by
  refine cs_i (by decide +kernel) (Nat.le_of_ble_eq_true rfl) ?_
  intro p e s m args below meth c A ls hF hr hk hnm hW hl
  have hx := hF.1
  have hb := hF.2.1
  have hl : lv_has ls 2 [(0, .ref (a 0)), (1, .int x1)] := hl
  obtain ⟨H, hH⟩ : ∃ z, z = s.heap := ⟨_, rfl⟩
  rw [← hH] at hW ⊢
  unfold f_X12_mayHold at h
  refine lv_iload_n hx hb dX12_mayHold_0 rfl (lv_at hl 1 rfl) ?_
  refine lv_bipush (v := (-9)) hx hb dX12_mayHold_1 (by decide) ?_
  refine lv_icmp_eq (tgt := 24) hx hb dX12_mayHold_3 (by decide) (fun q1 => ?_) (fun q1 => ?_)
  · have h := ifp q1 h
    refine lv_iconst (v := 1) hx hb dX12_mayHold_24 (by decide) ?_
    refine lv_goto (tgt := 29) hx hb dX12_mayHold_25 (by decide) ?_
    obtain rfl := Option.some.inj h
    exact rt_i hF hr hk (bI_n true) (fun _ => 0) hW rfl dX12_mayHold_29
  · have h := ifn q1 h
    refine lv_aload_n hx hb dX12_mayHold_6 rfl (lv_at hl 0 rfl) ?_
    refine lv_iload_n hx hb dX12_mayHold_7 rfl (lv_at hl 1 rfl) ?_
    obtain ⟨r2, hc4, h⟩ := bq_some h
    refine cV_i (ci := 12) (q0 := 0) (rest := []) hF hW mw_X12_177 (c_X12_isNode l K a hc4) ⟨Nat.le_of_ble_eq_true rfl, Nat.le_of_ble_eq_true rfl⟩ rfl rfl (pM_0 K a _) rfl hl.1 rfl (Nat.le_of_ble_eq_true rfl) dX12_mayHold_8 ⟨Nat.le_of_ble_eq_true rfl, Nat.le_of_ble_eq_true rfl⟩ (fun _ H locs hW => ?_)
    refine lz_eq (tgt := 28) hx hb dX12_mayHold_11 (by decide) (fun q5 => ?_) (fun q5 => ?_)
    · have h := ifn q5 h
      refine lv_iconst (v := 0) hx hb dX12_mayHold_28 (by decide) ?_
      obtain rfl := Option.some.inj h
      exact rt_i hF hr hk (bI_n false) (fun _ => 0) hW rfl dX12_mayHold_29
    · have h := ifp q5 h
      refine lv_aload_n hx hb dX12_mayHold_14 rfl (lv_at hl 0 rfl) ?_
      refine g_X12_26 hF hW dX12_mayHold_15 ?_
      refine lv_iload_n hx hb dX12_mayHold_18 rfl (lv_at hl 1 rfl) ?_
      obtain ⟨q6, h⟩ := ck_some h
      refine w_ild hF hW (pM_6 K a _) q6 dX12_mayHold_19 ?_
      refine lv_iconst (v := 3) hx hb dX12_mayHold_20 (by decide) ?_
      refine lv_icmp_eq (tgt := 28) hx hb dX12_mayHold_21 (by decide) (fun q7 => ?_) (fun q7 => ?_)
      · have h := ifp q7 h
        refine lv_iconst (v := 0) hx hb dX12_mayHold_28 (by decide) ?_
        obtain rfl := Option.some.inj h
        exact rt_i hF hr hk (bI_n false) (fun _ => 0) hW rfl dX12_mayHold_29
      · have h := ifn q7 h
        refine lv_iconst (v := 1) hx hb dX12_mayHold_24 (by decide) ?_
        refine lv_goto (tgt := 29) hx hb dX12_mayHold_25 (by decide) ?_
        obtain rfl := Option.some.inj h
        exact rt_i hF hr hk (bI_n true) (fun _ => 0) hW rfl dX12_mayHold_29
set_option maxRecDepth 100000 in
set_option maxHeartbeats 1000000 in
theorem c_X12_aim (l : Launch) (K : Kx) (a : Nat → Nat) {M M0 : Mem} {x1 : Int32} {x2 : Int32} {x3 : Int32} {x4 : Int32} {x5 : Int32} {r0 : Int32} (h : f_X12_aim M x1 x2 x3 x4 x5 = some (r0, M0)) : CMi l yX12_aim cX12_aim 6 (some .int) ({ frames := 2, cells := 0, slots := 0, locals := 46 } : Room) K [.ref (a 0), .int x1, .int x2, .int x3, .int x4, .int x5] (wM K a M) (fun _ => wM K a M0) r0 := by
  refine cs_i (by decide +kernel) (Nat.le_of_ble_eq_true rfl) ?_
  intro p e s m args below meth c A ls hF hr hk hnm hW hl
  have hx := hF.1
  have hb := hF.2.1
  have hl : lv_has ls 6 [(0, .ref (a 0)), (1, .int x1), (2, .int x2), (3, .int x3), (4, .int x4), (5, .int x5)] := hl
  obtain ⟨H, hH⟩ : ∃ z, z = s.heap := ⟨_, rfl⟩
  rw [← hH] at hW ⊢
  unfold f_X12_aim at h
  refine lv_aload_n hx hb dX12_aim_0 rfl (lv_at hl 0 rfl) ?_
  refine lv_iload_n hx hb dX12_aim_1 rfl (lv_at hl 1 rfl) ?_
  obtain ⟨r1, hc3, h⟩ := bq_some h
  refine cV_i (ci := 12) (q0 := 0) (rest := []) hF hW mw_X12_177 (c_X12_isNode l K a hc3) ⟨Nat.le_of_ble_eq_true rfl, Nat.le_of_ble_eq_true rfl⟩ rfl rfl (pM_0 K a _) rfl hl.1 rfl (Nat.le_of_ble_eq_true rfl) dX12_aim_2 ⟨Nat.le_of_ble_eq_true rfl, Nat.le_of_ble_eq_true rfl⟩ (fun _ H locs hW => ?_)
  refine lz_eq (tgt := 54) hx hb dX12_aim_5 (by decide) (fun q4 => ?_) (fun q4 => ?_)
  · have h := ifn q4 h
    refine lv_iconst (v := (-1)) hx hb dX12_aim_54 (by decide) ?_
    obtain ⟨rfl, rfl⟩ := Prod.mk.inj (Option.some.inj h)
    exact rt_i hF hr hk rfl (fun _ => 0) hW rfl dX12_aim_55
  · have h := ifp q4 h
    refine lv_iload_n hx hb dX12_aim_8 rfl (lv_at hl 2 rfl) ?_
    refine lv_i2l hx hb dX12_aim_9 rfl ?_
    refine lv_lconst (v := 0) hx hb dX12_aim_10 (by decide) ?_
    refine lv_ldc2 hx hb hF.2.2.2.1 (hF.2.2.1 _ kl_X12_158) dX12_aim_11 ?_
    obtain ⟨r5, hc7, h⟩ := bq_some h
    refine cS_i (rest := []) hF hW mw_X12_154 (c_X12_in l K hc7) ⟨Nat.le_of_ble_eq_true rfl, Nat.le_of_ble_eq_true rfl⟩ rfl hl.1 rfl (Nat.le_of_ble_eq_true rfl) dX12_aim_14 ⟨Nat.le_of_ble_eq_true rfl, Nat.le_of_ble_eq_true rfl⟩ (fun _ H locs hW => ?_)
    refine lz_eq (tgt := 54) hx hb dX12_aim_17 (by decide) (fun q8 => ?_) (fun q8 => ?_)
    · have h := ifn q8 h
      refine lv_iconst (v := (-1)) hx hb dX12_aim_54 (by decide) ?_
      obtain ⟨rfl, rfl⟩ := Prod.mk.inj (Option.some.inj h)
      exact rt_i hF hr hk rfl (fun _ => 0) hW rfl dX12_aim_55
    · have h := ifp q8 h
      refine lv_iload_n hx hb dX12_aim_20 rfl (lv_at hl 3 rfl) ?_
      refine lv_i2l hx hb dX12_aim_21 rfl ?_
      refine lv_lconst (v := 0) hx hb dX12_aim_22 (by decide) ?_
      refine lv_aload_n hx hb dX12_aim_23 rfl (lv_at hl 0 rfl) ?_
      refine g_X12_204 hF hW dX12_aim_24 ?_
      refine lv_iconst (v := 1) hx hb dX12_aim_27 (by decide) ?_
      refine lv_isub hx hb dX12_aim_28 ?_
      refine lv_i2l hx hb dX12_aim_29 rfl ?_
      obtain ⟨r9, hc11, h⟩ := bq_some h
      refine cS_i (rest := []) hF hW mw_X12_154 (c_X12_in l K hc11) ⟨Nat.le_of_ble_eq_true rfl, Nat.le_of_ble_eq_true rfl⟩ rfl hl.1 rfl (Nat.le_of_ble_eq_true rfl) dX12_aim_30 ⟨Nat.le_of_ble_eq_true rfl, Nat.le_of_ble_eq_true rfl⟩ (fun _ H locs hW => ?_)
      refine lz_eq (tgt := 54) hx hb dX12_aim_33 (by decide) (fun q12 => ?_) (fun q12 => ?_)
      · have h := ifn q12 h
        refine lv_iconst (v := (-1)) hx hb dX12_aim_54 (by decide) ?_
        obtain ⟨rfl, rfl⟩ := Prod.mk.inj (Option.some.inj h)
        exact rt_i hF hr hk rfl (fun _ => 0) hW rfl dX12_aim_55
      · have h := ifp q12 h
        refine lv_aload_n hx hb dX12_aim_36 rfl (lv_at hl 0 rfl) ?_
        refine lv_iload hx hb dX12_aim_37 (lv_at hl 4 rfl) ?_
        obtain ⟨r13, hc15, h⟩ := bq_some h
        refine cV_i (ci := 12) (q0 := 0) (rest := []) hF hW mw_X12_190 (c_X12_isSum l K a hc15) ⟨Nat.le_of_ble_eq_true rfl, Nat.le_of_ble_eq_true rfl⟩ rfl rfl (pM_0 K a _) rfl hl.1 rfl (Nat.le_of_ble_eq_true rfl) dX12_aim_39 ⟨Nat.le_of_ble_eq_true rfl, Nat.le_of_ble_eq_true rfl⟩ (fun _ H locs hW => ?_)
        refine lz_eq (tgt := 54) hx hb dX12_aim_42 (by decide) (fun q16 => ?_) (fun q16 => ?_)
        · have h := ifn q16 h
          refine lv_iconst (v := (-1)) hx hb dX12_aim_54 (by decide) ?_
          obtain ⟨rfl, rfl⟩ := Prod.mk.inj (Option.some.inj h)
          exact rt_i hF hr hk rfl (fun _ => 0) hW rfl dX12_aim_55
        · have h := ifp q16 h
          refine lv_aload_n hx hb dX12_aim_45 rfl (lv_at hl 0 rfl) ?_
          refine lv_iload hx hb dX12_aim_46 (lv_at hl 5 rfl) ?_
          obtain ⟨r17, hc19, h⟩ := bq_some h
          refine cV_i (ci := 12) (q0 := 0) (rest := []) hF hW mw_X12_190 (c_X12_isSum l K a hc19) ⟨Nat.le_of_ble_eq_true rfl, Nat.le_of_ble_eq_true rfl⟩ rfl rfl (pM_0 K a _) rfl hl.1 rfl (Nat.le_of_ble_eq_true rfl) dX12_aim_48 ⟨Nat.le_of_ble_eq_true rfl, Nat.le_of_ble_eq_true rfl⟩ (fun _ H locs hW => ?_)
          refine lz_ne (tgt := 56) hx hb dX12_aim_51 (by decide) (fun q20 => ?_) (fun q20 => ?_)
          · have h := ifp q20 h
            refine lv_aload_n hx hb dX12_aim_56 rfl (lv_at hl 0 rfl) ?_
            refine g_X12_26 hF hW dX12_aim_57 ?_
            refine lv_iload_n hx hb dX12_aim_60 rfl (lv_at hl 1 rfl) ?_
            obtain ⟨q21, h⟩ := ck_some h
            refine w_ild hF hW (pM_6 K a _) q21 dX12_aim_61 ?_
            refine lv_iconst (v := 3) hx hb dX12_aim_62 (by decide) ?_
            refine lv_icmp_eq (tgt := 72) hx hb dX12_aim_63 (by decide) (fun q22 => ?_) (fun q22 => ?_)
            · have h := ifp q22 h
              refine lv_aload_n hx hb dX12_aim_72 rfl (lv_at hl 0 rfl) ?_
              refine lv_iload hx hb dX12_aim_73 (lv_at hl 4 rfl) ?_
              refine lv_aload_n hx hb dX12_aim_75 rfl (lv_at hl 0 rfl) ?_
              refine g_X12_32 hF hW dX12_aim_76 ?_
              refine lv_iload_n hx hb dX12_aim_79 rfl (lv_at hl 1 rfl) ?_
              obtain ⟨q23, h⟩ := ck_some h
              refine w_ild hF hW (pM_8 K a _) q23 dX12_aim_80 ?_
              obtain ⟨r24, hc26, h⟩ := bq_some h
              refine cV_i (ci := 12) (q0 := 0) (rest := []) hF hW mw_X12_193 (c_X12_hasLetters l K a hc26) ⟨Nat.le_of_ble_eq_true rfl, Nat.le_of_ble_eq_true rfl⟩ rfl rfl (pM_0 K a _) rfl hl.1 rfl (Nat.le_of_ble_eq_true rfl) dX12_aim_81 ⟨Nat.le_of_ble_eq_true rfl, Nat.le_of_ble_eq_true rfl⟩ (fun _ H locs hW => ?_)
              refine lz_eq (tgt := 102) hx hb dX12_aim_84 (by decide) (fun q27 => ?_) (fun q27 => ?_)
              · have h := ifn q27 h
                refine lv_iconst (v := (-1)) hx hb dX12_aim_102 (by decide) ?_
                obtain ⟨rfl, rfl⟩ := Prod.mk.inj (Option.some.inj h)
                exact rt_i hF hr hk rfl (fun _ => 0) hW rfl dX12_aim_103
              · have h := ifp q27 h
                refine lv_aload_n hx hb dX12_aim_87 rfl (lv_at hl 0 rfl) ?_
                refine lv_iload hx hb dX12_aim_88 (lv_at hl 5 rfl) ?_
                refine lv_aload_n hx hb dX12_aim_90 rfl (lv_at hl 0 rfl) ?_
                refine g_X12_32 hF hW dX12_aim_91 ?_
                refine lv_iload_n hx hb dX12_aim_94 rfl (lv_at hl 1 rfl) ?_
                obtain ⟨q28, h⟩ := ck_some h
                refine w_ild hF hW (pM_8 K a _) q28 dX12_aim_95 ?_
                obtain ⟨r29, hc31, h⟩ := bq_some h
                refine cV_i (ci := 12) (q0 := 0) (rest := []) hF hW mw_X12_193 (c_X12_hasLetters l K a hc31) ⟨Nat.le_of_ble_eq_true rfl, Nat.le_of_ble_eq_true rfl⟩ rfl rfl (pM_0 K a _) rfl hl.1 rfl (Nat.le_of_ble_eq_true rfl) dX12_aim_96 ⟨Nat.le_of_ble_eq_true rfl, Nat.le_of_ble_eq_true rfl⟩ (fun _ H locs hW => ?_)
                refine lz_ne (tgt := 104) hx hb dX12_aim_99 (by decide) (fun q32 => ?_) (fun q32 => ?_)
                · have h := ifp q32 h
                  refine lv_aload_n hx hb dX12_aim_104 rfl (lv_at hl 0 rfl) ?_
                  refine g_X12_41 hF hW dX12_aim_105 ?_
                  refine lv_iconst (v := 3) hx hb dX12_aim_108 (by decide) ?_
                  refine lv_iload_n hx hb dX12_aim_109 rfl (lv_at hl 1 rfl) ?_
                  refine lv_imul hx hb dX12_aim_110 ?_
                  refine lv_iload_n hx hb dX12_aim_111 rfl (lv_at hl 2 rfl) ?_
                  refine lv_iadd hx hb dX12_aim_112 ?_
                  refine lv_iload_n hx hb dX12_aim_113 rfl (lv_at hl 3 rfl) ?_
                  obtain ⟨q33, h⟩ := ck_some h
                  refine w_ist hF hW (pM_11 K a _) q33 (uM_11 K a _ _ _) dX12_aim_114 (fun H locs hW => ?_)
                  refine lv_aload_n hx hb dX12_aim_115 rfl (lv_at hl 0 rfl) ?_
                  refine g_X12_44 hF hW dX12_aim_116 ?_
                  refine lv_iconst (v := 3) hx hb dX12_aim_119 (by decide) ?_
                  refine lv_iload_n hx hb dX12_aim_120 rfl (lv_at hl 1 rfl) ?_
                  refine lv_imul hx hb dX12_aim_121 ?_
                  refine lv_iload_n hx hb dX12_aim_122 rfl (lv_at hl 2 rfl) ?_
                  refine lv_iadd hx hb dX12_aim_123 ?_
                  refine lv_iload hx hb dX12_aim_124 (lv_at hl 4 rfl) ?_
                  obtain ⟨q34, h⟩ := ck_some h
                  refine w_ist hF hW (pM_12 K a _) q34 (uM_12 K a _ _ _) dX12_aim_126 (fun H locs hW => ?_)
                  refine lv_aload_n hx hb dX12_aim_127 rfl (lv_at hl 0 rfl) ?_
                  refine g_X12_47 hF hW dX12_aim_128 ?_
                  refine lv_iconst (v := 3) hx hb dX12_aim_131 (by decide) ?_
                  refine lv_iload_n hx hb dX12_aim_132 rfl (lv_at hl 1 rfl) ?_
                  refine lv_imul hx hb dX12_aim_133 ?_
                  refine lv_iload_n hx hb dX12_aim_134 rfl (lv_at hl 2 rfl) ?_
                  refine lv_iadd hx hb dX12_aim_135 ?_
                  refine lv_iload hx hb dX12_aim_136 (lv_at hl 5 rfl) ?_
                  obtain ⟨q35, h⟩ := ck_some h
                  refine w_ist hF hW (pM_13 K a _) q35 (uM_13 K a _ _ _) dX12_aim_138 (fun H locs hW => ?_)
                  refine lv_iconst (v := 1) hx hb dX12_aim_139 (by decide) ?_
                  obtain ⟨rfl, rfl⟩ := Prod.mk.inj (Option.some.inj h)
                  exact rt_i hF hr hk rfl (fun _ => 0) hW rfl dX12_aim_140
                · have h := ifn q32 h
                  refine lv_iconst (v := (-1)) hx hb dX12_aim_102 (by decide) ?_
                  obtain ⟨rfl, rfl⟩ := Prod.mk.inj (Option.some.inj h)
                  exact rt_i hF hr hk rfl (fun _ => 0) hW rfl dX12_aim_103
            · have h := ifn q22 h
              refine lv_aload_n hx hb dX12_aim_66 rfl (lv_at hl 0 rfl) ?_
              refine lv_iconst (v := 3) hx hb dX12_aim_67 (by decide) ?_
              obtain ⟨r36, M37, hc38, h⟩ := bd_some h
              refine cV_i (ci := 12) (q0 := 0) (rest := []) hF hW mw_X12_207 (c_X12_meets l K a hc38) ⟨Nat.le_of_ble_eq_true rfl, Nat.le_of_ble_eq_true rfl⟩ rfl rfl (pM_0 K a _) rfl hl.1 rfl (Nat.le_of_ble_eq_true rfl) dX12_aim_68 ⟨Nat.le_of_ble_eq_true rfl, Nat.le_of_ble_eq_true rfl⟩ (fun _ H locs hW => ?_)
              obtain ⟨rfl, rfl⟩ := Prod.mk.inj (Option.some.inj h)
              exact rt_i hF hr hk rfl (fun _ => 0) hW rfl dX12_aim_71
          · have h := ifn q20 h
            refine lv_iconst (v := (-1)) hx hb dX12_aim_54 (by decide) ?_
            obtain ⟨rfl, rfl⟩ := Prod.mk.inj (Option.some.inj h)
            exact rt_i hF hr hk rfl (fun _ => 0) hW rfl dX12_aim_55
set_option maxRecDepth 100000 in
set_option maxHeartbeats 1000000 in
theorem c_X12_node (l : Launch) (K : Kx) (a : Nat → Nat) {M : Mem} {x1 : Int32} {x2 : Int32} {r0 : Int32} (h : f_X12_node M x1 x2 = some r0) : CMi l yX12_node cX12_node 3 (some .int) ({ frames := 2, cells := 0, slots := 0, locals := 46 } : Room) K [.ref (a 0), .int x1, .int x2] (wM K a M) (fun _ => wM K a M) r0 := by
  refine cs_i (by decide +kernel) (Nat.le_of_ble_eq_true rfl) ?_
  intro p e s m args below meth c A ls hF hr hk hnm hW hl
  have hx := hF.1
  have hb := hF.2.1
  have hl : lv_has ls 3 [(0, .ref (a 0)), (1, .int x1), (2, .int x2)] := hl
  obtain ⟨H, hH⟩ : ∃ z, z = s.heap := ⟨_, rfl⟩
  rw [← hH] at hW ⊢
  unfold f_X12_node at h
  refine lv_aload_n hx hb dX12_node_0 rfl (lv_at hl 0 rfl) ?_
  refine lv_iload_n hx hb dX12_node_1 rfl (lv_at hl 1 rfl) ?_
  obtain ⟨r1, hc3, h⟩ := bq_some h
  refine cV_i (ci := 12) (q0 := 0) (rest := []) hF hW mw_X12_177 (c_X12_isNode l K a hc3) ⟨Nat.le_of_ble_eq_true rfl, Nat.le_of_ble_eq_true rfl⟩ rfl rfl (pM_0 K a _) rfl hl.1 rfl (Nat.le_of_ble_eq_true rfl) dX12_node_2 ⟨Nat.le_of_ble_eq_true rfl, Nat.le_of_ble_eq_true rfl⟩ (fun _ H locs hW => ?_)
  refine lz_eq (tgt := 20) hx hb dX12_node_5 (by decide) (fun q4 => ?_) (fun q4 => ?_)
  · have h := ifn q4 h
    refine lv_iconst (v := (-1)) hx hb dX12_node_20 (by decide) ?_
    obtain rfl := Option.some.inj h
    exact rt_i hF hr hk rfl (fun _ => 0) hW rfl dX12_node_21
  · have h := ifp q4 h
    refine lv_iload_n hx hb dX12_node_8 rfl (lv_at hl 2 rfl) ?_
    refine lv_i2l hx hb dX12_node_9 rfl ?_
    refine lv_lconst (v := 0) hx hb dX12_node_10 (by decide) ?_
    refine lv_ldc2 hx hb hF.2.2.2.1 (hF.2.2.1 _ kl_X12_210) dX12_node_11 ?_
    obtain ⟨r5, hc7, h⟩ := bq_some h
    refine cS_i (rest := []) hF hW mw_X12_154 (c_X12_in l K hc7) ⟨Nat.le_of_ble_eq_true rfl, Nat.le_of_ble_eq_true rfl⟩ rfl hl.1 rfl (Nat.le_of_ble_eq_true rfl) dX12_node_14 ⟨Nat.le_of_ble_eq_true rfl, Nat.le_of_ble_eq_true rfl⟩ (fun _ H locs hW => ?_)
    refine lz_ne (tgt := 22) hx hb dX12_node_17 (by decide) (fun q8 => ?_) (fun q8 => ?_)
    · have h := ifp q8 h
      refine lv_iload_n hx hb dX12_node_22 rfl (lv_at hl 2 rfl) ?_
      refine lv_if_ne (tgt := 35) hx hb dX12_node_23 (by decide) (fun q9 => ?_) (fun q9 => ?_)
      · have h := ifn q9 h
        refine lv_iload_n hx hb dX12_node_35 rfl (lv_at hl 2 rfl) ?_
        refine lv_iconst (v := 1) hx hb dX12_node_36 (by decide) ?_
        refine lv_icmp_ne (tgt := 49) hx hb dX12_node_37 (by decide) (fun q10 => ?_) (fun q10 => ?_)
        · have h := ifn q10 h
          refine lv_iload_n hx hb dX12_node_49 rfl (lv_at hl 2 rfl) ?_
          refine lv_iconst (v := 2) hx hb dX12_node_50 (by decide) ?_
          refine lv_icmp_ne (tgt := 63) hx hb dX12_node_51 (by decide) (fun q11 => ?_) (fun q11 => ?_)
          · have h := ifn q11 h
            refine lv_iload_n hx hb dX12_node_63 rfl (lv_at hl 2 rfl) ?_
            refine lv_iconst (v := 3) hx hb dX12_node_64 (by decide) ?_
            refine lv_icmp_ne (tgt := 77) hx hb dX12_node_65 (by decide) (fun q12 => ?_) (fun q12 => ?_)
            · have h := ifn q12 h
              refine lv_aload_n hx hb dX12_node_77 rfl (lv_at hl 0 rfl) ?_
              refine g_X12_38 hF hW dX12_node_78 ?_
              refine lv_iload_n hx hb dX12_node_81 rfl (lv_at hl 1 rfl) ?_
              obtain ⟨q13, h⟩ := ck_some h
              refine w_ild hF hW (pM_10 K a _) q13 dX12_node_82 ?_
              obtain rfl := Option.some.inj h
              exact rt_i hF hr hk rfl (fun _ => 0) hW rfl dX12_node_83
            · have h := ifp q12 h
              refine lv_aload_n hx hb dX12_node_68 rfl (lv_at hl 0 rfl) ?_
              refine g_X12_35 hF hW dX12_node_69 ?_
              refine lv_iload_n hx hb dX12_node_72 rfl (lv_at hl 1 rfl) ?_
              obtain ⟨q14, h⟩ := ck_some h
              refine w_ild hF hW (pM_9 K a _) q14 dX12_node_73 ?_
              refine lv_goto (tgt := 83) hx hb dX12_node_74 (by decide) ?_
              obtain rfl := Option.some.inj h
              exact rt_i hF hr hk rfl (fun _ => 0) hW rfl dX12_node_83
          · have h := ifp q11 h
            refine lv_aload_n hx hb dX12_node_54 rfl (lv_at hl 0 rfl) ?_
            refine g_X12_32 hF hW dX12_node_55 ?_
            refine lv_iload_n hx hb dX12_node_58 rfl (lv_at hl 1 rfl) ?_
            obtain ⟨q15, h⟩ := ck_some h
            refine w_ild hF hW (pM_8 K a _) q15 dX12_node_59 ?_
            refine lv_goto (tgt := 83) hx hb dX12_node_60 (by decide) ?_
            obtain rfl := Option.some.inj h
            exact rt_i hF hr hk rfl (fun _ => 0) hW rfl dX12_node_83
        · have h := ifp q10 h
          refine lv_aload_n hx hb dX12_node_40 rfl (lv_at hl 0 rfl) ?_
          refine g_X12_29 hF hW dX12_node_41 ?_
          refine lv_iload_n hx hb dX12_node_44 rfl (lv_at hl 1 rfl) ?_
          obtain ⟨q16, h⟩ := ck_some h
          refine w_ild hF hW (pM_7 K a _) q16 dX12_node_45 ?_
          refine lv_goto (tgt := 83) hx hb dX12_node_46 (by decide) ?_
          obtain rfl := Option.some.inj h
          exact rt_i hF hr hk rfl (fun _ => 0) hW rfl dX12_node_83
      · have h := ifp q9 h
        refine lv_aload_n hx hb dX12_node_26 rfl (lv_at hl 0 rfl) ?_
        refine g_X12_26 hF hW dX12_node_27 ?_
        refine lv_iload_n hx hb dX12_node_30 rfl (lv_at hl 1 rfl) ?_
        obtain ⟨q17, h⟩ := ck_some h
        refine w_ild hF hW (pM_6 K a _) q17 dX12_node_31 ?_
        refine lv_goto (tgt := 83) hx hb dX12_node_32 (by decide) ?_
        obtain rfl := Option.some.inj h
        exact rt_i hF hr hk rfl (fun _ => 0) hW rfl dX12_node_83
    · have h := ifn q8 h
      refine lv_iconst (v := (-1)) hx hb dX12_node_20 (by decide) ?_
      obtain rfl := Option.some.inj h
      exact rt_i hF hr hk rfl (fun _ => 0) hW rfl dX12_node_21
set_option maxRecDepth 100000 in
set_option maxHeartbeats 1000000 in
theorem c_X12_hold (l : Launch) (K : Kx) (a : Nat → Nat) {M M0 : Mem} {x1 : Int32} {x2 : Int32} {r0 : Int32} (h : f_X12_hold M x1 x2 = some (r0, M0)) : CMi l yX12_hold cX12_hold 3 (some .int) ({ frames := 2, cells := 0, slots := 0, locals := 46 } : Room) K [.ref (a 0), .int x1, .int x2] (wM K a M) (fun _ => wM K a M0) r0 := by
  refine cs_i (by decide +kernel) (Nat.le_of_ble_eq_true rfl) ?_
  intro p e s m args below meth c A ls hF hr hk hnm hW hl
  have hx := hF.1
  have hb := hF.2.1
  have hl : lv_has ls 3 [(0, .ref (a 0)), (1, .int x1), (2, .int x2)] := hl
  obtain ⟨H, hH⟩ : ∃ z, z = s.heap := ⟨_, rfl⟩
  rw [← hH] at hW ⊢
  have J22 : ∀ (x1 : Int32) (x2 : Int32) (M : Mem) (H : Heap) (locs : List Loc) (ls : Array Slot), f_X12_hold_22 x1 x2 M = some (r0, M0) → Wd K A s (wM K a M) H locs → lv_has ls 3 [(0, .ref (a 0)), (1, .int x1), (2, .int x2)] → W p l e ({ frames := 2, cells := 0, slots := 0, locals := 46 } : Room) s m args below meth c H locs 0 0 (EndI K A (fun _ => wM K a M0) r0 below args s ({ frames := 2, cells := 0, slots := 0, locals := 46 } : Room)) (F0 m 22 ls []) := by
    have J45 : ∀ (x1 : Int32) (x2 : Int32) (s1 : Int32) (s2 : Bool) (M : Mem) (H : Heap) (locs : List Loc) (ls : Array Slot), f_X12_hold_45 x1 x2 s1 s2 M = some (r0, M0) → Wd K A s (wM K a M) H locs → lv_has ls 3 [(0, .ref (a 0)), (1, .int x1), (2, .int x2)] → W p l e ({ frames := 2, cells := 0, slots := 0, locals := 46 } : Room) s m args below meth c H locs 0 0 (EndI K A (fun _ => wM K a M0) r0 below args s ({ frames := 2, cells := 0, slots := 0, locals := 46 } : Room)) (F0 m 45 ls [.int (bI s2), .int s1, .ref (a 14)]) := by
      intro x1 x2 s1 s2 M H locs ls h hW hl
      unfold f_X12_hold_45 at h
      obtain ⟨q12, h⟩ := ck_some h
      refine w_ist hF hW (pM_14 K a _) q12 (uM_14 K a _ _ _) dX12_hold_45 (fun H locs hW => ?_)
      refine lv_aload_n hx hb dX12_hold_46 rfl (lv_at hl 0 rfl) ?_
      refine g_X12_53 hF hW dX12_hold_47 ?_
      refine lv_iload_n hx hb dX12_hold_50 rfl (lv_at hl 1 rfl) ?_
      refine lv_iload_n hx hb dX12_hold_51 rfl (lv_at hl 2 rfl) ?_
      obtain ⟨q13, h⟩ := ck_some h
      refine w_ist hF hW (pM_15 K a _) q13 (uM_15 K a _ _ _) dX12_hold_52 (fun H locs hW => ?_)
      refine lv_iconst (v := 1) hx hb dX12_hold_53 (by decide) ?_
      obtain ⟨rfl, rfl⟩ := Prod.mk.inj (Option.some.inj h)
      exact rt_i hF hr hk rfl (fun _ => 0) hW rfl dX12_hold_54
    intro x1 x2 M H locs ls h hW hl
    unfold f_X12_hold_22 at h
    refine lv_iload_n hx hb dX12_hold_22 rfl (lv_at hl 1 rfl) ?_
    refine lv_iload_n hx hb dX12_hold_23 rfl (lv_at hl 2 rfl) ?_
    refine lv_icmp_ne (tgt := 29) hx hb dX12_hold_24 (by decide) (fun q10 => ?_) (fun q10 => ?_)
    · have h := ifn q10 h
      refine lv_aload_n hx hb dX12_hold_29 rfl (lv_at hl 0 rfl) ?_
      refine g_X12_50 hF hW dX12_hold_30 ?_
      refine lv_iload_n hx hb dX12_hold_33 rfl (lv_at hl 1 rfl) ?_
      refine lv_iload_n hx hb dX12_hold_34 rfl (lv_at hl 2 rfl) ?_
      refine lv_bipush (v := (-9)) hx hb dX12_hold_35 (by decide) ?_
      refine lv_icmp_ne (tgt := 44) hx hb dX12_hold_37 (by decide) (fun q11 => ?_) (fun q11 => ?_)
      · have h := ifn q11 h
        refine lv_iconst (v := 1) hx hb dX12_hold_44 (by decide) ?_
        exact J45 x1 x2 x1 true _ _ _ _ h hW (lv_sub hl [0, 1, 2] rfl)
      · have h := ifp q11 h
        refine lv_iconst (v := 0) hx hb dX12_hold_40 (by decide) ?_
        refine lv_goto (tgt := 45) hx hb dX12_hold_41 (by decide) ?_
        exact J45 x1 x2 x1 false _ _ _ _ h hW (lv_sub hl [0, 1, 2] rfl)
    · have h := ifp q10 h
      refine lv_iconst (v := (-1)) hx hb dX12_hold_27 (by decide) ?_
      obtain ⟨rfl, rfl⟩ := Prod.mk.inj (Option.some.inj h)
      exact rt_i hF hr hk rfl (fun _ => 0) hW rfl dX12_hold_28
  unfold f_X12_hold at h
  refine lv_aload_n hx hb dX12_hold_0 rfl (lv_at hl 0 rfl) ?_
  refine lv_iload_n hx hb dX12_hold_1 rfl (lv_at hl 1 rfl) ?_
  obtain ⟨r1, hc3, h⟩ := bq_some h
  refine cV_i (ci := 12) (q0 := 0) (rest := []) hF hW mw_X12_177 (c_X12_isNode l K a hc3) ⟨Nat.le_of_ble_eq_true rfl, Nat.le_of_ble_eq_true rfl⟩ rfl rfl (pM_0 K a _) rfl hl.1 rfl (Nat.le_of_ble_eq_true rfl) dX12_hold_2 ⟨Nat.le_of_ble_eq_true rfl, Nat.le_of_ble_eq_true rfl⟩ (fun _ H locs hW => ?_)
  refine lz_eq (tgt := 27) hx hb dX12_hold_5 (by decide) (fun q4 => ?_) (fun q4 => ?_)
  · have h := ifn q4 h
    refine lv_iconst (v := (-1)) hx hb dX12_hold_27 (by decide) ?_
    obtain ⟨rfl, rfl⟩ := Prod.mk.inj (Option.some.inj h)
    exact rt_i hF hr hk rfl (fun _ => 0) hW rfl dX12_hold_28
  · have h := ifp q4 h
    refine lv_iload_n hx hb dX12_hold_8 rfl (lv_at hl 2 rfl) ?_
    refine lv_bipush (v := (-9)) hx hb dX12_hold_9 (by decide) ?_
    refine lv_icmp_eq (tgt := 22) hx hb dX12_hold_11 (by decide) (fun q5 => ?_) (fun q5 => ?_)
    · have h := ifp q5 h
      exact J22 x1 x2 _ _ _ _ h hW (lv_sub hl [0, 1, 2] rfl)
    · have h := ifn q5 h
      refine lv_aload_n hx hb dX12_hold_14 rfl (lv_at hl 0 rfl) ?_
      refine lv_iload_n hx hb dX12_hold_15 rfl (lv_at hl 2 rfl) ?_
      obtain ⟨r6, hc8, h⟩ := bq_some h
      refine cV_i (ci := 12) (q0 := 0) (rest := []) hF hW mw_X12_177 (c_X12_isNode l K a hc8) ⟨Nat.le_of_ble_eq_true rfl, Nat.le_of_ble_eq_true rfl⟩ rfl rfl (pM_0 K a _) rfl hl.1 rfl (Nat.le_of_ble_eq_true rfl) dX12_hold_16 ⟨Nat.le_of_ble_eq_true rfl, Nat.le_of_ble_eq_true rfl⟩ (fun _ H locs hW => ?_)
      refine lz_eq (tgt := 27) hx hb dX12_hold_19 (by decide) (fun q9 => ?_) (fun q9 => ?_)
      · have h := ifn q9 h
        refine lv_iconst (v := (-1)) hx hb dX12_hold_27 (by decide) ?_
        obtain ⟨rfl, rfl⟩ := Prod.mk.inj (Option.some.inj h)
        exact rt_i hF hr hk rfl (fun _ => 0) hW rfl dX12_hold_28
      · have h := ifp q9 h
        exact J22 x1 x2 _ _ _ _ h hW (lv_sub hl [0, 1, 2] rfl)
set_option maxRecDepth 100000 in
set_option maxHeartbeats 1000000 in
theorem c_X12_note (l : Launch) (K : Kx) (a : Nat → Nat) {M M0 : Mem} {x1 : Int32} {x2 : Int32} {r0 : Int32} (h : f_X12_note M x1 x2 = some (r0, M0)) : CMi l yX12_note cX12_note 4 (some .int) ({ frames := 2, cells := 0, slots := 0, locals := 46 } : Room) K [.ref (a 0), .int x1, .int x2] (wM K a M) (fun _ => wM K a M0) r0 := by
  refine cs_i (by decide +kernel) (Nat.le_of_ble_eq_true rfl) ?_
  intro p e s m args below meth c A ls hF hr hk hnm hW hl
  have hx := hF.1
  have hb := hF.2.1
  have hl : lv_has ls 4 [(0, .ref (a 0)), (1, .int x1), (2, .int x2)] := hl
  obtain ⟨H, hH⟩ : ∃ z, z = s.heap := ⟨_, rfl⟩
  rw [← hH] at hW ⊢
  have J42 : ∀ (n42 : Nat) (x1 : Int32) (x2 : Int32) (x3 : Int32) (M : Mem) (H : Heap) (locs : List Loc) (ls : Array Slot), f_X12_note_42 n42 x1 x2 x3 M = some (r0, M0) → Wd K A s (wM K a M) H locs → lv_has ls 4 [(0, .ref (a 0)), (1, .int x1), (2, .int x2), (3, .int x3)] → W p l e ({ frames := 2, cells := 0, slots := 0, locals := 46 } : Room) s m args below meth c H locs 0 0 (EndI K A (fun _ => wM K a M0) r0 below args s ({ frames := 2, cells := 0, slots := 0, locals := 46 } : Room)) (F0 m 42 ls []) := by
    intro n42
    induction n42 with
    | zero => intro x1 x2 x3 M H locs ls h; exact absurd h (by simp [f_X12_note_42])
    | succ n42 ih42 =>
      intro x1 x2 x3 M H locs ls h hW hl
      rw [f_X12_note_42] at h
      refine lv_iload_n hx hb dX12_note_42 rfl (lv_at hl 3 rfl) ?_
      refine lv_bipush (v := 12) hx hb dX12_note_43 (by decide) ?_
      refine lv_icmp_ge (tgt := 66) hx hb dX12_note_45 (by decide) (fun q12 => ?_) (fun q12 => ?_)
      · have h := ifp q12 h
        refine lv_iload_n hx hb dX12_note_66 rfl (lv_at hl 2 rfl) ?_
        obtain ⟨rfl, rfl⟩ := Prod.mk.inj (Option.some.inj h)
        exact rt_i hF hr hk rfl (fun _ => 0) hW rfl dX12_note_67
      · have h := ifn q12 h
        refine lv_aload_n hx hb dX12_note_48 rfl (lv_at hl 0 rfl) ?_
        refine g_X12_59 hF hW dX12_note_49 ?_
        refine lv_bipush (v := 12) hx hb dX12_note_52 (by decide) ?_
        refine lv_iload_n hx hb dX12_note_54 rfl (lv_at hl 1 rfl) ?_
        refine lv_imul hx hb dX12_note_55 ?_
        refine lv_iload_n hx hb dX12_note_56 rfl (lv_at hl 3 rfl) ?_
        refine lv_iadd hx hb dX12_note_57 ?_
        refine lv_iconst (v := 0) hx hb dX12_note_58 (by decide) ?_
        obtain ⟨q13, h⟩ := ck_some h
        refine w_bst hF hW (pM_17 K a _) q13 (uM_17 K a _ _ _) dX12_note_59 (fun H locs hW => ?_)
        refine lv_iinc (v := (x3 + 1)) (lv' := [(3, .int (x3 + 1)), (0, .ref (a 0)), (1, .int x1), (2, .int x2)]) hx hb dX12_note_60 hl (k := 3) rfl rfl (by decide) rfl (fun ls hl => ?_)
        refine lv_goto (tgt := 42) hx hb dX12_note_63 (by decide) ?_
        exact ih42 x1 x2 (x3 + 1) _ _ _ _ h hW (lv_sub hl [1, 2, 3, 0] rfl)
  unfold f_X12_note at h
  refine lv_aload_n hx hb dX12_note_0 rfl (lv_at hl 0 rfl) ?_
  refine lv_iload_n hx hb dX12_note_1 rfl (lv_at hl 1 rfl) ?_
  obtain ⟨r1, hc3, h⟩ := bq_some h
  refine cV_i (ci := 12) (q0 := 0) (rest := []) hF hW mw_X12_177 (c_X12_isNode l K a hc3) ⟨Nat.le_of_ble_eq_true rfl, Nat.le_of_ble_eq_true rfl⟩ rfl rfl (pM_0 K a _) rfl hl.1 rfl (Nat.le_of_ble_eq_true rfl) dX12_note_2 ⟨Nat.le_of_ble_eq_true rfl, Nat.le_of_ble_eq_true rfl⟩ (fun _ H locs hW => ?_)
  refine lz_eq (tgt := 14) hx hb dX12_note_5 (by decide) (fun q4 => ?_) (fun q4 => ?_)
  · have h := ifn q4 h
    refine lv_iconst (v := (-1)) hx hb dX12_note_14 (by decide) ?_
    obtain ⟨rfl, rfl⟩ := Prod.mk.inj (Option.some.inj h)
    exact rt_i hF hr hk rfl (fun _ => 0) hW rfl dX12_note_15
  · have h := ifp q4 h
    refine lv_iload_n hx hb dX12_note_8 rfl (lv_at hl 2 rfl) ?_
    refine lv_bipush (v := 12) hx hb dX12_note_9 (by decide) ?_
    refine lv_icmp_le (tgt := 16) hx hb dX12_note_11 (by decide) (fun q5 => ?_) (fun q5 => ?_)
    · have h := ifp q5 h
      refine lv_iload_n hx hb dX12_note_16 rfl (lv_at hl 2 rfl) ?_
      refine lv_if_ge (tgt := 26) hx hb dX12_note_17 (by decide) (fun q6 => ?_) (fun q6 => ?_)
      · have h := ifp q6 h
        refine lv_aload_n hx hb dX12_note_26 rfl (lv_at hl 0 rfl) ?_
        refine g_X12_50 hF hW dX12_note_27 ?_
        refine lv_iload_n hx hb dX12_note_30 rfl (lv_at hl 1 rfl) ?_
        refine lv_iconst (v := 2) hx hb dX12_note_31 (by decide) ?_
        obtain ⟨q7, h⟩ := ck_some h
        refine w_ist hF hW (pM_14 K a _) q7 (uM_14 K a _ _ _) dX12_note_32 (fun H locs hW => ?_)
        refine lv_aload_n hx hb dX12_note_33 rfl (lv_at hl 0 rfl) ?_
        refine g_X12_56 hF hW dX12_note_34 ?_
        refine lv_iload_n hx hb dX12_note_37 rfl (lv_at hl 1 rfl) ?_
        refine lv_iload_n hx hb dX12_note_38 rfl (lv_at hl 2 rfl) ?_
        obtain ⟨q8, h⟩ := ck_some h
        refine w_ist hF hW (pM_16 K a _) q8 (uM_16 K a _ _ _) dX12_note_39 (fun H locs hW => ?_)
        refine lv_iconst (v := 0) hx hb dX12_note_40 (by decide) ?_
        refine lv_istore_n (lv' := [(3, .int 0), (0, .ref (a 0)), (1, .int x1), (2, .int x2)]) hx hb dX12_note_41 rfl hl (by decide) rfl (fun ls hl => ?_)
        exact J42 100000 x1 x2 0 _ _ _ _ h hW (lv_sub hl [1, 2, 3, 0] rfl)
      · have h := ifn q6 h
        refine lv_aload_n hx hb dX12_note_20 rfl (lv_at hl 0 rfl) ?_
        refine lv_iconst (v := 5) hx hb dX12_note_21 (by decide) ?_
        obtain ⟨r9, M10, hc11, h⟩ := bd_some h
        refine cV_i (ci := 12) (q0 := 0) (rest := []) hF hW mw_X12_207 (c_X12_meets l K a hc11) ⟨Nat.le_of_ble_eq_true rfl, Nat.le_of_ble_eq_true rfl⟩ rfl rfl (pM_0 K a _) rfl hl.1 rfl (Nat.le_of_ble_eq_true rfl) dX12_note_22 ⟨Nat.le_of_ble_eq_true rfl, Nat.le_of_ble_eq_true rfl⟩ (fun _ H locs hW => ?_)
        obtain ⟨rfl, rfl⟩ := Prod.mk.inj (Option.some.inj h)
        exact rt_i hF hr hk rfl (fun _ => 0) hW rfl dX12_note_25
    · have h := ifn q5 h
      refine lv_iconst (v := (-1)) hx hb dX12_note_14 (by decide) ?_
      obtain ⟨rfl, rfl⟩ := Prod.mk.inj (Option.some.inj h)
      exact rt_i hF hr hk rfl (fun _ => 0) hW rfl dX12_note_15
set_option maxRecDepth 100000 in
set_option maxHeartbeats 1000000 in
theorem c_X12_held (l : Launch) (K : Kx) (a : Nat → Nat) {M M0 : Mem} {x1 : Int32} {x2 : Int32} {r0 : Int32} (h : f_X12_held M x1 x2 = some (r0, M0)) : CMi l yX12_held cX12_held 4 (some .int) ({ frames := 2, cells := 0, slots := 0, locals := 46 } : Room) K [.ref (a 0), .int x1, .int x2] (wM K a M) (fun _ => wM K a M0) r0 := by
  refine cs_i (by decide +kernel) (Nat.le_of_ble_eq_true rfl) ?_
  intro p e s m args below meth c A ls hF hr hk hnm hW hl
  have hx := hF.1
  have hb := hF.2.1
  have hl : lv_has ls 4 [(0, .ref (a 0)), (1, .int x1), (2, .int x2)] := hl
  obtain ⟨H, hH⟩ : ∃ z, z = s.heap := ⟨_, rfl⟩
  rw [← hH] at hW ⊢
  have J88 : ∀ (M : Mem) (H : Heap) (locs : List Loc) (ls : Array Slot), f_X12_held_88 M = some (r0, M0) → Wd K A s (wM K a M) H locs → lv_has ls 4 [(0, .ref (a 0))] → W p l e ({ frames := 2, cells := 0, slots := 0, locals := 46 } : Room) s m args below meth c H locs 0 0 (EndI K A (fun _ => wM K a M0) r0 below args s ({ frames := 2, cells := 0, slots := 0, locals := 46 } : Room)) (F0 m 88 ls []) := by
    intro M H locs ls h hW hl
    unfold f_X12_held_88 at h
    refine lv_aload_n hx hb dX12_held_88 rfl (lv_at hl 0 rfl) ?_
    refine lv_iconst (v := 3) hx hb dX12_held_89 (by decide) ?_
    obtain ⟨r26, M27, hc28, h⟩ := bd_some h
    refine cV_i (ci := 12) (q0 := 0) (rest := []) hF hW mw_X12_207 (c_X12_meets l K a hc28) ⟨Nat.le_of_ble_eq_true rfl, Nat.le_of_ble_eq_true rfl⟩ rfl rfl (pM_0 K a _) rfl hl.1 rfl (Nat.le_of_ble_eq_true rfl) dX12_held_90 ⟨Nat.le_of_ble_eq_true rfl, Nat.le_of_ble_eq_true rfl⟩ (fun _ H locs hW => ?_)
    obtain ⟨rfl, rfl⟩ := Prod.mk.inj (Option.some.inj h)
    exact rt_i hF hr hk rfl (fun _ => 0) hW rfl dX12_held_93
  unfold f_X12_held at h
  refine lv_aload_n hx hb dX12_held_0 rfl (lv_at hl 0 rfl) ?_
  refine lv_iload_n hx hb dX12_held_1 rfl (lv_at hl 1 rfl) ?_
  obtain ⟨r1, hc3, h⟩ := bq_some h
  refine cV_i (ci := 12) (q0 := 0) (rest := []) hF hW mw_X12_177 (c_X12_isNode l K a hc3) ⟨Nat.le_of_ble_eq_true rfl, Nat.le_of_ble_eq_true rfl⟩ rfl rfl (pM_0 K a _) rfl hl.1 rfl (Nat.le_of_ble_eq_true rfl) dX12_held_2 ⟨Nat.le_of_ble_eq_true rfl, Nat.le_of_ble_eq_true rfl⟩ (fun _ H locs hW => ?_)
  refine lz_eq (tgt := 20) hx hb dX12_held_5 (by decide) (fun q4 => ?_) (fun q4 => ?_)
  · have h := ifn q4 h
    refine lv_iconst (v := (-1)) hx hb dX12_held_20 (by decide) ?_
    obtain ⟨rfl, rfl⟩ := Prod.mk.inj (Option.some.inj h)
    exact rt_i hF hr hk rfl (fun _ => 0) hW rfl dX12_held_21
  · have h := ifp q4 h
    refine lv_iload_n hx hb dX12_held_8 rfl (lv_at hl 2 rfl) ?_
    refine lv_i2l hx hb dX12_held_9 rfl ?_
    refine lv_lconst (v := 0) hx hb dX12_held_10 (by decide) ?_
    refine lv_ldc2 hx hb hF.2.2.2.1 (hF.2.2.1 _ kl_X12_212) dX12_held_11 ?_
    obtain ⟨r5, hc7, h⟩ := bq_some h
    refine cS_i (rest := []) hF hW mw_X12_154 (c_X12_in l K hc7) ⟨Nat.le_of_ble_eq_true rfl, Nat.le_of_ble_eq_true rfl⟩ rfl hl.1 rfl (Nat.le_of_ble_eq_true rfl) dX12_held_14 ⟨Nat.le_of_ble_eq_true rfl, Nat.le_of_ble_eq_true rfl⟩ (fun _ H locs hW => ?_)
    refine lz_ne (tgt := 22) hx hb dX12_held_17 (by decide) (fun q8 => ?_) (fun q8 => ?_)
    · have h := ifp q8 h
      refine lv_aload_n hx hb dX12_held_22 rfl (lv_at hl 0 rfl) ?_
      refine g_X12_50 hF hW dX12_held_23 ?_
      refine lv_iload_n hx hb dX12_held_26 rfl (lv_at hl 1 rfl) ?_
      obtain ⟨q9, h⟩ := ck_some h
      refine w_ild hF hW (pM_14 K a _) q9 dX12_held_27 ?_
      refine lv_if_ne (tgt := 37) hx hb dX12_held_28 (by decide) (fun q10 => ?_) (fun q10 => ?_)
      · have h := ifn q10 h
        refine lv_aload_n hx hb dX12_held_37 rfl (lv_at hl 0 rfl) ?_
        refine g_X12_50 hF hW dX12_held_38 ?_
        refine lv_iload_n hx hb dX12_held_41 rfl (lv_at hl 1 rfl) ?_
        obtain ⟨q11, h⟩ := ck_some h
        refine w_ild hF hW (pM_14 K a _) q11 dX12_held_42 ?_
        refine lv_iconst (v := 2) hx hb dX12_held_43 (by decide) ?_
        refine lv_icmp_ne (tgt := 53) hx hb dX12_held_44 (by decide) (fun q12 => ?_) (fun q12 => ?_)
        · have h := ifn q12 h
          refine lv_aload_n hx hb dX12_held_53 rfl (lv_at hl 0 rfl) ?_
          refine g_X12_26 hF hW dX12_held_54 ?_
          refine lv_aload_n hx hb dX12_held_57 rfl (lv_at hl 0 rfl) ?_
          refine g_X12_53 hF hW dX12_held_58 ?_
          refine lv_iload_n hx hb dX12_held_61 rfl (lv_at hl 1 rfl) ?_
          obtain ⟨q13, h⟩ := ck_some h
          refine w_ild hF hW (pM_15 K a _) q13 dX12_held_62 ?_
          obtain ⟨q14, h⟩ := ck_some h
          refine w_ild hF hW (pM_6 K a _) q14 dX12_held_63 ?_
          refine lv_istore_n (lv' := [(3, .int (M.1 6 (M.1 15 x1.toNatClampNeg).toNatClampNeg)), (0, .ref (a 0)), (1, .int x1), (2, .int x2)]) hx hb dX12_held_64 rfl hl (by decide) rfl (fun ls hl => ?_)
          refine lv_iload_n hx hb dX12_held_65 rfl (lv_at hl 0 rfl) ?_
          refine lv_iload_n hx hb dX12_held_66 rfl (lv_at hl 3 rfl) ?_
          refine lv_icmp_eq (tgt := 79) hx hb dX12_held_67 (by decide) (fun q15 => ?_) (fun q15 => ?_)
          · have h := ifp q15 h
            refine lv_aload_n hx hb dX12_held_79 rfl (lv_at hl 1 rfl) ?_
            refine g_X12_53 hF hW dX12_held_80 ?_
            refine lv_iload_n hx hb dX12_held_83 rfl (lv_at hl 2 rfl) ?_
            obtain ⟨q16, h⟩ := ck_some h
            refine w_ild hF hW (pM_15 K a _) q16 dX12_held_84 ?_
            refine lv_goto (tgt := 93) hx hb dX12_held_85 (by decide) ?_
            obtain ⟨rfl, rfl⟩ := Prod.mk.inj (Option.some.inj h)
            exact rt_i hF hr hk rfl (fun _ => 0) hW rfl dX12_held_93
          · have h := ifn q15 h
            refine lv_iload_n hx hb dX12_held_70 rfl (lv_at hl 3 rfl) ?_
            refine lv_if_ne (tgt := 88) hx hb dX12_held_71 (by decide) (fun q17 => ?_) (fun q17 => ?_)
            · have h := ifn q17 h
              exact J88 _ _ _ _ h hW (lv_sub hl [1] rfl)
            · have h := ifp q17 h
              refine lv_iload_n hx hb dX12_held_74 rfl (lv_at hl 0 rfl) ?_
              refine lv_iconst (v := 1) hx hb dX12_held_75 (by decide) ?_
              refine lv_icmp_ne (tgt := 88) hx hb dX12_held_76 (by decide) (fun q18 => ?_) (fun q18 => ?_)
              · have h := ifn q18 h
                exact J88 _ _ _ _ h hW (lv_sub hl [1] rfl)
              · have h := ifp q18 h
                refine lv_aload_n hx hb dX12_held_79 rfl (lv_at hl 1 rfl) ?_
                refine g_X12_53 hF hW dX12_held_80 ?_
                refine lv_iload_n hx hb dX12_held_83 rfl (lv_at hl 2 rfl) ?_
                obtain ⟨q19, h⟩ := ck_some h
                refine w_ild hF hW (pM_15 K a _) q19 dX12_held_84 ?_
                refine lv_goto (tgt := 93) hx hb dX12_held_85 (by decide) ?_
                obtain ⟨rfl, rfl⟩ := Prod.mk.inj (Option.some.inj h)
                exact rt_i hF hr hk rfl (fun _ => 0) hW rfl dX12_held_93
        · have h := ifp q12 h
          refine lv_aload_n hx hb dX12_held_47 rfl (lv_at hl 0 rfl) ?_
          refine lv_iconst (v := 3) hx hb dX12_held_48 (by decide) ?_
          obtain ⟨r20, M21, hc22, h⟩ := bd_some h
          refine cV_i (ci := 12) (q0 := 0) (rest := []) hF hW mw_X12_207 (c_X12_meets l K a hc22) ⟨Nat.le_of_ble_eq_true rfl, Nat.le_of_ble_eq_true rfl⟩ rfl rfl (pM_0 K a _) rfl hl.1 rfl (Nat.le_of_ble_eq_true rfl) dX12_held_49 ⟨Nat.le_of_ble_eq_true rfl, Nat.le_of_ble_eq_true rfl⟩ (fun _ H locs hW => ?_)
          obtain ⟨rfl, rfl⟩ := Prod.mk.inj (Option.some.inj h)
          exact rt_i hF hr hk rfl (fun _ => 0) hW rfl dX12_held_52
      · have h := ifp q10 h
        refine lv_aload_n hx hb dX12_held_31 rfl (lv_at hl 0 rfl) ?_
        refine lv_iconst (v := 1) hx hb dX12_held_32 (by decide) ?_
        obtain ⟨r23, M24, hc25, h⟩ := bd_some h
        refine cV_i (ci := 12) (q0 := 0) (rest := []) hF hW mw_X12_207 (c_X12_meets l K a hc25) ⟨Nat.le_of_ble_eq_true rfl, Nat.le_of_ble_eq_true rfl⟩ rfl rfl (pM_0 K a _) rfl hl.1 rfl (Nat.le_of_ble_eq_true rfl) dX12_held_33 ⟨Nat.le_of_ble_eq_true rfl, Nat.le_of_ble_eq_true rfl⟩ (fun _ H locs hW => ?_)
        obtain ⟨rfl, rfl⟩ := Prod.mk.inj (Option.some.inj h)
        exact rt_i hF hr hk rfl (fun _ => 0) hW rfl dX12_held_36
    · have h := ifn q8 h
      refine lv_iconst (v := (-1)) hx hb dX12_held_20 (by decide) ?_
      obtain ⟨rfl, rfl⟩ := Prod.mk.inj (Option.some.inj h)
      exact rt_i hF hr hk rfl (fun _ => 0) hW rfl dX12_held_21
set_option maxRecDepth 100000 in
set_option maxHeartbeats 1000000 in
theorem c_X12_noted (l : Launch) (K : Kx) (a : Nat → Nat) {M M0 : Mem} {x1 : Int32} {x2 : Int32} {x3 : Int32} {r0 : Int32} (h : f_X12_noted M x1 x2 x3 = some (r0, M0)) : CMi l yX12_noted cX12_noted 5 (some .int) ({ frames := 2, cells := 0, slots := 0, locals := 46 } : Room) K [.ref (a 0), .int x1, .int x2, .int x3] (wM K a M) (fun _ => wM K a M0) r0 := by
  refine cs_i (by decide +kernel) (Nat.le_of_ble_eq_true rfl) ?_
  intro p e s m args below meth c A ls hF hr hk hnm hW hl
  have hx := hF.1
  have hb := hF.2.1
  have hl : lv_has ls 5 [(0, .ref (a 0)), (1, .int x1), (2, .int x2), (3, .int x3)] := hl
  obtain ⟨H, hH⟩ : ∃ z, z = s.heap := ⟨_, rfl⟩
  rw [← hH] at hW ⊢
  have J35 : ∀ (s1 : Int32) (M : Mem) (H : Heap) (locs : List Loc) (ls : Array Slot), f_X12_noted_35 s1 M = some (r0, M0) → Wd K A s (wM K a M) H locs → lv_has ls 5 [] → W p l e ({ frames := 2, cells := 0, slots := 0, locals := 46 } : Room) s m args below meth c H locs 0 0 (EndI K A (fun _ => wM K a M0) r0 below args s ({ frames := 2, cells := 0, slots := 0, locals := 46 } : Room)) (F0 m 35 ls [.int s1, .ref (a 0)]) := by
    intro s1 M H locs ls h hW hl
    unfold f_X12_noted_35 at h
    obtain ⟨r19, M20, hc21, h⟩ := bd_some h
    refine cV_i (ci := 12) (q0 := 0) (rest := []) hF hW mw_X12_207 (c_X12_meets l K a hc21) ⟨Nat.le_of_ble_eq_true rfl, Nat.le_of_ble_eq_true rfl⟩ rfl rfl (pM_0 K a _) rfl hl.1 rfl (Nat.le_of_ble_eq_true rfl) dX12_noted_35 ⟨Nat.le_of_ble_eq_true rfl, Nat.le_of_ble_eq_true rfl⟩ (fun _ H locs hW => ?_)
    obtain ⟨rfl, rfl⟩ := Prod.mk.inj (Option.some.inj h)
    exact rt_i hF hr hk rfl (fun _ => 0) hW rfl dX12_noted_38
  unfold f_X12_noted at h
  refine lv_aload_n hx hb dX12_noted_0 rfl (lv_at hl 0 rfl) ?_
  refine lv_iload_n hx hb dX12_noted_1 rfl (lv_at hl 1 rfl) ?_
  obtain ⟨r1, hc3, h⟩ := bq_some h
  refine cV_i (ci := 12) (q0 := 0) (rest := []) hF hW mw_X12_177 (c_X12_isNode l K a hc3) ⟨Nat.le_of_ble_eq_true rfl, Nat.le_of_ble_eq_true rfl⟩ rfl rfl (pM_0 K a _) rfl hl.1 rfl (Nat.le_of_ble_eq_true rfl) dX12_noted_2 ⟨Nat.le_of_ble_eq_true rfl, Nat.le_of_ble_eq_true rfl⟩ (fun _ H locs hW => ?_)
  refine lz_ne (tgt := 10) hx hb dX12_noted_5 (by decide) (fun q4 => ?_) (fun q4 => ?_)
  · have h := ifp q4 h
    refine lv_aload_n hx hb dX12_noted_10 rfl (lv_at hl 0 rfl) ?_
    refine g_X12_50 hF hW dX12_noted_11 ?_
    refine lv_iload_n hx hb dX12_noted_14 rfl (lv_at hl 1 rfl) ?_
    obtain ⟨q5, h⟩ := ck_some h
    refine w_ild hF hW (pM_14 K a _) q5 dX12_noted_15 ?_
    refine lv_iconst (v := 2) hx hb dX12_noted_16 (by decide) ?_
    refine lv_icmp_eq (tgt := 39) hx hb dX12_noted_17 (by decide) (fun q6 => ?_) (fun q6 => ?_)
    · have h := ifp q6 h
      refine lv_iload_n hx hb dX12_noted_39 rfl (lv_at hl 2 rfl) ?_
      refine lv_i2l hx hb dX12_noted_40 rfl ?_
      refine lv_lconst (v := 0) hx hb dX12_noted_41 (by decide) ?_
      refine lv_aload_n hx hb dX12_noted_42 rfl (lv_at hl 0 rfl) ?_
      refine g_X12_56 hF hW dX12_noted_43 ?_
      refine lv_iload_n hx hb dX12_noted_46 rfl (lv_at hl 1 rfl) ?_
      obtain ⟨q7, h⟩ := ck_some h
      refine w_ild hF hW (pM_16 K a _) q7 dX12_noted_47 ?_
      refine lv_iconst (v := 1) hx hb dX12_noted_48 (by decide) ?_
      refine lv_isub hx hb dX12_noted_49 ?_
      refine lv_i2l hx hb dX12_noted_50 rfl ?_
      obtain ⟨r8, hc10, h⟩ := bq_some h
      refine cS_i (rest := []) hF hW mw_X12_154 (c_X12_in l K hc10) ⟨Nat.le_of_ble_eq_true rfl, Nat.le_of_ble_eq_true rfl⟩ rfl hl.1 rfl (Nat.le_of_ble_eq_true rfl) dX12_noted_51 ⟨Nat.le_of_ble_eq_true rfl, Nat.le_of_ble_eq_true rfl⟩ (fun _ H locs hW => ?_)
      refine lz_ne (tgt := 63) hx hb dX12_noted_54 (by decide) (fun q11 => ?_) (fun q11 => ?_)
      · have h := ifp q11 h
        refine lv_aload_n hx hb dX12_noted_63 rfl (lv_at hl 0 rfl) ?_
        refine g_X12_59 hF hW dX12_noted_64 ?_
        refine lv_bipush (v := 12) hx hb dX12_noted_67 (by decide) ?_
        refine lv_iload_n hx hb dX12_noted_69 rfl (lv_at hl 1 rfl) ?_
        refine lv_imul hx hb dX12_noted_70 ?_
        refine lv_iload_n hx hb dX12_noted_71 rfl (lv_at hl 2 rfl) ?_
        refine lv_iadd hx hb dX12_noted_72 ?_
        obtain ⟨q12, h⟩ := ck_some h
        refine w_bld hF hW (pM_17 K a _) q12 dX12_noted_73 ?_
        refine lv_istore (lv' := [(4, .int (M.1 17 ((12 * x1) + x2).toNatClampNeg)), (0, .ref (a 0)), (1, .int x1), (2, .int x2), (3, .int x3)]) hx hb dX12_noted_74 hl (by decide) rfl (fun ls hl => ?_)
        refine lv_aload_n hx hb dX12_noted_76 rfl (lv_at hl 1 rfl) ?_
        refine g_X12_59 hF hW dX12_noted_77 ?_
        refine lv_bipush (v := 12) hx hb dX12_noted_80 (by decide) ?_
        refine lv_iload_n hx hb dX12_noted_82 rfl (lv_at hl 2 rfl) ?_
        refine lv_imul hx hb dX12_noted_83 ?_
        refine lv_iload_n hx hb dX12_noted_84 rfl (lv_at hl 3 rfl) ?_
        refine lv_iadd hx hb dX12_noted_85 ?_
        refine lv_iload_n hx hb dX12_noted_86 rfl (lv_at hl 4 rfl) ?_
        refine lv_i2b hx hb dX12_noted_87 rfl ?_
        obtain ⟨q13, h⟩ := ck_some h
        refine w_bst hF hW (pM_17 K a _) q13 (uM_17 K a _ _ _) dX12_noted_88 (fun H locs hW => ?_)
        refine lv_sipush (v := 1000) hx hb dX12_noted_89 (by decide) ?_
        refine lv_iload hx hb dX12_noted_92 (lv_at hl 0 rfl) ?_
        refine lv_iadd hx hb dX12_noted_94 ?_
        obtain ⟨rfl, rfl⟩ := Prod.mk.inj (Option.some.inj h)
        exact rt_i hF hr hk rfl (fun _ => 0) hW rfl dX12_noted_95
      · have h := ifn q11 h
        refine lv_aload_n hx hb dX12_noted_57 rfl (lv_at hl 0 rfl) ?_
        refine lv_iconst (v := 2) hx hb dX12_noted_58 (by decide) ?_
        obtain ⟨r14, M15, hc16, h⟩ := bd_some h
        refine cV_i (ci := 12) (q0 := 0) (rest := []) hF hW mw_X12_207 (c_X12_meets l K a hc16) ⟨Nat.le_of_ble_eq_true rfl, Nat.le_of_ble_eq_true rfl⟩ rfl rfl (pM_0 K a _) rfl hl.1 rfl (Nat.le_of_ble_eq_true rfl) dX12_noted_59 ⟨Nat.le_of_ble_eq_true rfl, Nat.le_of_ble_eq_true rfl⟩ (fun _ H locs hW => ?_)
        obtain ⟨rfl, rfl⟩ := Prod.mk.inj (Option.some.inj h)
        exact rt_i hF hr hk rfl (fun _ => 0) hW rfl dX12_noted_62
    · have h := ifn q6 h
      refine lv_aload_n hx hb dX12_noted_20 rfl (lv_at hl 0 rfl) ?_
      refine lv_aload_n hx hb dX12_noted_21 rfl (lv_at hl 0 rfl) ?_
      refine g_X12_50 hF hW dX12_noted_22 ?_
      refine lv_iload_n hx hb dX12_noted_25 rfl (lv_at hl 1 rfl) ?_
      obtain ⟨q17, h⟩ := ck_some h
      refine w_ild hF hW (pM_14 K a _) q17 dX12_noted_26 ?_
      refine lv_if_ne (tgt := 34) hx hb dX12_noted_27 (by decide) (fun q18 => ?_) (fun q18 => ?_)
      · have h := ifn q18 h
        refine lv_iconst (v := 3) hx hb dX12_noted_34 (by decide) ?_
        exact J35 3 _ _ _ _ h hW (lv_sub hl [] rfl)
      · have h := ifp q18 h
        refine lv_iconst (v := 1) hx hb dX12_noted_30 (by decide) ?_
        refine lv_goto (tgt := 35) hx hb dX12_noted_31 (by decide) ?_
        exact J35 1 _ _ _ _ h hW (lv_sub hl [] rfl)
  · have h := ifn q4 h
    refine lv_iconst (v := (-1)) hx hb dX12_noted_8 (by decide) ?_
    obtain ⟨rfl, rfl⟩ := Prod.mk.inj (Option.some.inj h)
    exact rt_i hF hr hk rfl (fun _ => 0) hW rfl dX12_noted_9
set_option maxRecDepth 100000 in
set_option maxHeartbeats 1000000 in
theorem c_X12_copy (l : Launch) (K : Kx) (a : Nat → Nat) {M M0 : Mem} {x1 : Int32} {x2 : Int32} {x3 : Int32} {x4 : Int32} {x5 : Int32} {r0 : Int32} (h : f_X12_copy M x1 x2 x3 x4 x5 = some (r0, M0)) : CMi l yX12_copy cX12_copy 7 (some .int) ({ frames := 2, cells := 0, slots := 0, locals := 46 } : Room) K [.ref (a 0), .int x1, .int x2, .int x3, .int x4, .int x5] (wM K a M) (fun _ => wM K a M0) r0 := by
  refine cs_i (by decide +kernel) (Nat.le_of_ble_eq_true rfl) ?_
  intro p e s m args below meth c A ls hF hr hk hnm hW hl
  have hx := hF.1
  have hb := hF.2.1
  have hl : lv_has ls 7 [(0, .ref (a 0)), (1, .int x1), (2, .int x2), (3, .int x3), (4, .int x4), (5, .int x5)] := hl
  obtain ⟨H, hH⟩ : ∃ z, z = s.heap := ⟨_, rfl⟩
  rw [← hH] at hW ⊢
  have J38 : ∀ (M : Mem) (H : Heap) (locs : List Loc) (ls : Array Slot), f_X12_copy_38 M = some (r0, M0) → Wd K A s (wM K a M) H locs → lv_has ls 7 [(0, .ref (a 0))] → W p l e ({ frames := 2, cells := 0, slots := 0, locals := 46 } : Room) s m args below meth c H locs 0 0 (EndI K A (fun _ => wM K a M0) r0 below args s ({ frames := 2, cells := 0, slots := 0, locals := 46 } : Room)) (F0 m 38 ls []) := by
    intro M H locs ls h hW hl
    unfold f_X12_copy_38 at h
    refine lv_aload_n hx hb dX12_copy_38 rfl (lv_at hl 0 rfl) ?_
    refine lv_iconst (v := 3) hx hb dX12_copy_39 (by decide) ?_
    obtain ⟨r24, M25, hc26, h⟩ := bd_some h
    refine cV_i (ci := 12) (q0 := 0) (rest := []) hF hW mw_X12_207 (c_X12_meets l K a hc26) ⟨Nat.le_of_ble_eq_true rfl, Nat.le_of_ble_eq_true rfl⟩ rfl rfl (pM_0 K a _) rfl hl.1 rfl (Nat.le_of_ble_eq_true rfl) dX12_copy_40 ⟨Nat.le_of_ble_eq_true rfl, Nat.le_of_ble_eq_true rfl⟩ (fun _ H locs hW => ?_)
    obtain ⟨rfl, rfl⟩ := Prod.mk.inj (Option.some.inj h)
    exact rt_i hF hr hk rfl (fun _ => 0) hW rfl dX12_copy_43
  have J62 : ∀ (M : Mem) (H : Heap) (locs : List Loc) (ls : Array Slot), f_X12_copy_62 M = some (r0, M0) → Wd K A s (wM K a M) H locs → lv_has ls 7 [(0, .ref (a 0))] → W p l e ({ frames := 2, cells := 0, slots := 0, locals := 46 } : Room) s m args below meth c H locs 0 0 (EndI K A (fun _ => wM K a M0) r0 below args s ({ frames := 2, cells := 0, slots := 0, locals := 46 } : Room)) (F0 m 62 ls []) := by
    intro M H locs ls h hW hl
    unfold f_X12_copy_62 at h
    refine lv_aload_n hx hb dX12_copy_62 rfl (lv_at hl 0 rfl) ?_
    refine lv_iconst (v := 1) hx hb dX12_copy_63 (by decide) ?_
    obtain ⟨r27, M28, hc29, h⟩ := bd_some h
    refine cV_i (ci := 12) (q0 := 0) (rest := []) hF hW mw_X12_207 (c_X12_meets l K a hc29) ⟨Nat.le_of_ble_eq_true rfl, Nat.le_of_ble_eq_true rfl⟩ rfl rfl (pM_0 K a _) rfl hl.1 rfl (Nat.le_of_ble_eq_true rfl) dX12_copy_64 ⟨Nat.le_of_ble_eq_true rfl, Nat.le_of_ble_eq_true rfl⟩ (fun _ H locs hW => ?_)
    obtain ⟨rfl, rfl⟩ := Prod.mk.inj (Option.some.inj h)
    exact rt_i hF hr hk rfl (fun _ => 0) hW rfl dX12_copy_67
  have J117 : ∀ (M : Mem) (H : Heap) (locs : List Loc) (ls : Array Slot), f_X12_copy_117 M = some (r0, M0) → Wd K A s (wM K a M) H locs → lv_has ls 7 [(0, .ref (a 0))] → W p l e ({ frames := 2, cells := 0, slots := 0, locals := 46 } : Room) s m args below meth c H locs 0 0 (EndI K A (fun _ => wM K a M0) r0 below args s ({ frames := 2, cells := 0, slots := 0, locals := 46 } : Room)) (F0 m 117 ls []) := by
    intro M H locs ls h hW hl
    unfold f_X12_copy_117 at h
    refine lv_aload_n hx hb dX12_copy_117 rfl (lv_at hl 0 rfl) ?_
    refine lv_iconst (v := 2) hx hb dX12_copy_118 (by decide) ?_
    obtain ⟨r30, M31, hc32, h⟩ := bd_some h
    refine cV_i (ci := 12) (q0 := 0) (rest := []) hF hW mw_X12_207 (c_X12_meets l K a hc32) ⟨Nat.le_of_ble_eq_true rfl, Nat.le_of_ble_eq_true rfl⟩ rfl rfl (pM_0 K a _) rfl hl.1 rfl (Nat.le_of_ble_eq_true rfl) dX12_copy_119 ⟨Nat.le_of_ble_eq_true rfl, Nat.le_of_ble_eq_true rfl⟩ (fun _ H locs hW => ?_)
    obtain ⟨rfl, rfl⟩ := Prod.mk.inj (Option.some.inj h)
    exact rt_i hF hr hk rfl (fun _ => 0) hW rfl dX12_copy_122
  have J126 : ∀ (n126 : Nat) (x1 : Int32) (x2 : Int32) (x3 : Int32) (x4 : Int32) (x5 : Int32) (x6 : Int32) (M : Mem) (H : Heap) (locs : List Loc) (ls : Array Slot), f_X12_copy_126 n126 x1 x2 x3 x4 x5 x6 M = some (r0, M0) → Wd K A s (wM K a M) H locs → lv_has ls 7 [(0, .ref (a 0)), (1, .int x1), (2, .int x2), (3, .int x3), (4, .int x4), (5, .int x5), (6, .int x6)] → W p l e ({ frames := 2, cells := 0, slots := 0, locals := 46 } : Room) s m args below meth c H locs 0 0 (EndI K A (fun _ => wM K a M0) r0 below args s ({ frames := 2, cells := 0, slots := 0, locals := 46 } : Room)) (F0 m 126 ls []) := by
    intro n126
    induction n126 with
    | zero => intro x1 x2 x3 x4 x5 x6 M H locs ls h; exact absurd h (by simp [f_X12_copy_126])
    | succ n126 ih126 =>
      have J163 : ∀ (n163 : Nat) (x3 : Int32) (x4 : Int32) (x5 : Int32) (x6 : Int32) (M : Mem) (H : Heap) (locs : List Loc) (ls : Array Slot), f_X12_copy_163 n163 x3 x4 x5 x6 M = some (r0, M0) → Wd K A s (wM K a M) H locs → lv_has ls 7 [(0, .ref (a 0)), (3, .int x3), (4, .int x4), (5, .int x5), (6, .int x6)] → W p l e ({ frames := 2, cells := 0, slots := 0, locals := 46 } : Room) s m args below meth c H locs 0 0 (EndI K A (fun _ => wM K a M0) r0 below args s ({ frames := 2, cells := 0, slots := 0, locals := 46 } : Room)) (F0 m 163 ls []) := by
        intro n163
        induction n163 with
        | zero => intro x3 x4 x5 x6 M H locs ls h; exact absurd h (by simp [f_X12_copy_163])
        | succ n163 ih163 =>
          intro x3 x4 x5 x6 M H locs ls h hW hl
          rw [f_X12_copy_163] at h
          refine lv_iload hx hb dX12_copy_163 (lv_at hl 4 rfl) ?_
          refine lv_iload hx hb dX12_copy_165 (lv_at hl 3 rfl) ?_
          refine lv_icmp_ge (tgt := 198) hx hb dX12_copy_167 (by decide) (fun q36 => ?_) (fun q36 => ?_)
          · have h := ifp q36 h
            refine lv_iconst (v := 1) hx hb dX12_copy_198 (by decide) ?_
            obtain ⟨rfl, rfl⟩ := Prod.mk.inj (Option.some.inj h)
            exact rt_i hF hr hk rfl (fun _ => 0) hW rfl dX12_copy_199
          · have h := ifn q36 h
            refine lv_aload_n hx hb dX12_copy_170 rfl (lv_at hl 0 rfl) ?_
            refine g_X12_59 hF hW dX12_copy_171 ?_
            refine lv_bipush (v := 12) hx hb dX12_copy_174 (by decide) ?_
            refine lv_iload_n hx hb dX12_copy_176 rfl (lv_at hl 1 rfl) ?_
            refine lv_imul hx hb dX12_copy_177 ?_
            refine lv_iload hx hb dX12_copy_178 (lv_at hl 2 rfl) ?_
            refine lv_iadd hx hb dX12_copy_180 ?_
            refine lv_iload hx hb dX12_copy_181 (lv_at hl 4 rfl) ?_
            refine lv_iadd hx hb dX12_copy_183 ?_
            refine lv_aload_n hx hb dX12_copy_184 rfl (lv_at hl 0 rfl) ?_
            refine g_X12_63 hF hW dX12_copy_185 ?_
            refine lv_iload hx hb dX12_copy_188 (lv_at hl 4 rfl) ?_
            obtain ⟨q37, h⟩ := ck_some h
            refine w_bld hF hW (pM_18 K a _) q37 dX12_copy_190 ?_
            obtain ⟨q38, h⟩ := ck_some h
            refine w_bst hF hW (pM_17 K a _) q38 (uM_17 K a _ _ _) dX12_copy_191 (fun H locs hW => ?_)
            refine lv_iinc (v := (x6 + 1)) (lv' := [(6, .int (x6 + 1)), (0, .ref (a 0)), (3, .int x3), (4, .int x4), (5, .int x5)]) hx hb dX12_copy_192 hl (k := 4) rfl rfl (by decide) rfl (fun ls hl => ?_)
            refine lv_goto (tgt := 163) hx hb dX12_copy_195 (by decide) ?_
            exact ih163 x3 x4 x5 (x6 + 1) _ _ _ _ h hW (lv_sub hl [1, 2, 3, 4, 0] rfl)
      intro x1 x2 x3 x4 x5 x6 M H locs ls h hW hl
      rw [f_X12_copy_126] at h
      refine lv_iload hx hb dX12_copy_126 (lv_at hl 6 rfl) ?_
      refine lv_iload hx hb dX12_copy_128 (lv_at hl 5 rfl) ?_
      refine lv_icmp_ge (tgt := 160) hx hb dX12_copy_130 (by decide) (fun q33 => ?_) (fun q33 => ?_)
      · have h := ifp q33 h
        refine lv_iconst (v := 0) hx hb dX12_copy_160 (by decide) ?_
        refine lv_istore (lv' := [(6, .int 0), (0, .ref (a 0)), (1, .int x1), (2, .int x2), (3, .int x3), (4, .int x4), (5, .int x5)]) hx hb dX12_copy_161 hl (by decide) rfl (fun ls hl => ?_)
        exact J163 100000 x3 x4 x5 0 _ _ _ _ h hW (lv_sub hl [1, 4, 5, 6, 0] rfl)
      · have h := ifn q33 h
        refine lv_aload_n hx hb dX12_copy_133 rfl (lv_at hl 0 rfl) ?_
        refine g_X12_63 hF hW dX12_copy_134 ?_
        refine lv_iload hx hb dX12_copy_137 (lv_at hl 6 rfl) ?_
        refine lv_aload_n hx hb dX12_copy_139 rfl (lv_at hl 0 rfl) ?_
        refine g_X12_59 hF hW dX12_copy_140 ?_
        refine lv_bipush (v := 12) hx hb dX12_copy_143 (by decide) ?_
        refine lv_iload_n hx hb dX12_copy_145 rfl (lv_at hl 1 rfl) ?_
        refine lv_imul hx hb dX12_copy_146 ?_
        refine lv_iload_n hx hb dX12_copy_147 rfl (lv_at hl 2 rfl) ?_
        refine lv_iadd hx hb dX12_copy_148 ?_
        refine lv_iload hx hb dX12_copy_149 (lv_at hl 6 rfl) ?_
        refine lv_iadd hx hb dX12_copy_151 ?_
        obtain ⟨q34, h⟩ := ck_some h
        refine w_bld hF hW (pM_17 K a _) q34 dX12_copy_152 ?_
        obtain ⟨q35, h⟩ := ck_some h
        refine w_bst hF hW (pM_18 K a _) q35 (uM_18 K a _ _ _) dX12_copy_153 (fun H locs hW => ?_)
        refine lv_iinc (v := (x6 + 1)) (lv' := [(6, .int (x6 + 1)), (0, .ref (a 0)), (1, .int x1), (2, .int x2), (3, .int x3), (4, .int x4), (5, .int x5)]) hx hb dX12_copy_154 hl (k := 6) rfl rfl (by decide) rfl (fun ls hl => ?_)
        refine lv_goto (tgt := 126) hx hb dX12_copy_157 (by decide) ?_
        exact ih126 x1 x2 x3 x4 x5 (x6 + 1) _ _ _ _ h hW (lv_sub hl [1, 2, 3, 4, 5, 6, 0] rfl)
  unfold f_X12_copy at h
  refine lv_aload_n hx hb dX12_copy_0 rfl (lv_at hl 0 rfl) ?_
  refine lv_iload_n hx hb dX12_copy_1 rfl (lv_at hl 1 rfl) ?_
  obtain ⟨r1, hc3, h⟩ := bq_some h
  refine cV_i (ci := 12) (q0 := 0) (rest := []) hF hW mw_X12_177 (c_X12_isNode l K a hc3) ⟨Nat.le_of_ble_eq_true rfl, Nat.le_of_ble_eq_true rfl⟩ rfl rfl (pM_0 K a _) rfl hl.1 rfl (Nat.le_of_ble_eq_true rfl) dX12_copy_2 ⟨Nat.le_of_ble_eq_true rfl, Nat.le_of_ble_eq_true rfl⟩ (fun _ H locs hW => ?_)
  refine lz_eq (tgt := 16) hx hb dX12_copy_5 (by decide) (fun q4 => ?_) (fun q4 => ?_)
  · have h := ifn q4 h
    refine lv_iconst (v := (-1)) hx hb dX12_copy_16 (by decide) ?_
    obtain ⟨rfl, rfl⟩ := Prod.mk.inj (Option.some.inj h)
    exact rt_i hF hr hk rfl (fun _ => 0) hW rfl dX12_copy_17
  · have h := ifp q4 h
    refine lv_aload_n hx hb dX12_copy_8 rfl (lv_at hl 0 rfl) ?_
    refine lv_iload_n hx hb dX12_copy_9 rfl (lv_at hl 3 rfl) ?_
    obtain ⟨r5, hc7, h⟩ := bq_some h
    refine cV_i (ci := 12) (q0 := 0) (rest := []) hF hW mw_X12_177 (c_X12_isNode l K a hc7) ⟨Nat.le_of_ble_eq_true rfl, Nat.le_of_ble_eq_true rfl⟩ rfl rfl (pM_0 K a _) rfl hl.1 rfl (Nat.le_of_ble_eq_true rfl) dX12_copy_10 ⟨Nat.le_of_ble_eq_true rfl, Nat.le_of_ble_eq_true rfl⟩ (fun _ H locs hW => ?_)
    refine lz_ne (tgt := 18) hx hb dX12_copy_13 (by decide) (fun q8 => ?_) (fun q8 => ?_)
    · have h := ifp q8 h
      refine lv_aload_n hx hb dX12_copy_18 rfl (lv_at hl 0 rfl) ?_
      refine g_X12_50 hF hW dX12_copy_19 ?_
      refine lv_iload_n hx hb dX12_copy_22 rfl (lv_at hl 1 rfl) ?_
      obtain ⟨q9, h⟩ := ck_some h
      refine w_ild hF hW (pM_14 K a _) q9 dX12_copy_23 ?_
      refine lv_iconst (v := 1) hx hb dX12_copy_24 (by decide) ?_
      refine lv_icmp_eq (tgt := 38) hx hb dX12_copy_25 (by decide) (fun q10 => ?_) (fun q10 => ?_)
      · have h := ifp q10 h
        exact J38 _ _ _ _ h hW (lv_sub hl [0] rfl)
      · have h := ifn q10 h
        refine lv_aload_n hx hb dX12_copy_28 rfl (lv_at hl 0 rfl) ?_
        refine g_X12_50 hF hW dX12_copy_29 ?_
        refine lv_iload_n hx hb dX12_copy_32 rfl (lv_at hl 3 rfl) ?_
        obtain ⟨q11, h⟩ := ck_some h
        refine w_ild hF hW (pM_14 K a _) q11 dX12_copy_33 ?_
        refine lv_iconst (v := 1) hx hb dX12_copy_34 (by decide) ?_
        refine lv_icmp_ne (tgt := 44) hx hb dX12_copy_35 (by decide) (fun q12 => ?_) (fun q12 => ?_)
        · have h := ifn q12 h
          refine lv_aload_n hx hb dX12_copy_44 rfl (lv_at hl 0 rfl) ?_
          refine g_X12_50 hF hW dX12_copy_45 ?_
          refine lv_iload_n hx hb dX12_copy_48 rfl (lv_at hl 1 rfl) ?_
          obtain ⟨q13, h⟩ := ck_some h
          refine w_ild hF hW (pM_14 K a _) q13 dX12_copy_49 ?_
          refine lv_if_eq (tgt := 62) hx hb dX12_copy_50 (by decide) (fun q14 => ?_) (fun q14 => ?_)
          · have h := ifp q14 h
            exact J62 _ _ _ _ h hW (lv_sub hl [0] rfl)
          · have h := ifn q14 h
            refine lv_aload_n hx hb dX12_copy_53 rfl (lv_at hl 0 rfl) ?_
            refine g_X12_50 hF hW dX12_copy_54 ?_
            refine lv_iload_n hx hb dX12_copy_57 rfl (lv_at hl 3 rfl) ?_
            obtain ⟨q15, h⟩ := ck_some h
            refine w_ild hF hW (pM_14 K a _) q15 dX12_copy_58 ?_
            refine lv_if_ne (tgt := 68) hx hb dX12_copy_59 (by decide) (fun q16 => ?_) (fun q16 => ?_)
            · have h := ifn q16 h
              refine lv_iload_n hx hb dX12_copy_68 rfl (lv_at hl 2 rfl) ?_
              refine lv_if_lt (tgt := 117) hx hb dX12_copy_69 (by decide) (fun q17 => ?_) (fun q17 => ?_)
              · have h := ifp q17 h
                exact J117 _ _ _ _ h hW (lv_sub hl [0] rfl)
              · have h := ifn q17 h
                refine lv_iload hx hb dX12_copy_72 (lv_at hl 4 rfl) ?_
                refine lv_if_lt (tgt := 117) hx hb dX12_copy_74 (by decide) (fun q18 => ?_) (fun q18 => ?_)
                · have h := ifp q18 h
                  exact J117 _ _ _ _ h hW (lv_sub hl [0] rfl)
                · have h := ifn q18 h
                  refine lv_iload hx hb dX12_copy_77 (lv_at hl 5 rfl) ?_
                  refine lv_if_lt (tgt := 117) hx hb dX12_copy_79 (by decide) (fun q19 => ?_) (fun q19 => ?_)
                  · have h := ifp q19 h
                    exact J117 _ _ _ _ h hW (lv_sub hl [0] rfl)
                  · have h := ifn q19 h
                    refine lv_iload_n hx hb dX12_copy_82 rfl (lv_at hl 2 rfl) ?_
                    refine lv_i2l hx hb dX12_copy_83 rfl ?_
                    refine lv_iload hx hb dX12_copy_84 (lv_at hl 5 rfl) ?_
                    refine lv_i2l hx hb dX12_copy_86 rfl ?_
                    refine lv_ladd hx hb dX12_copy_87 ?_
                    refine lv_aload_n hx hb dX12_copy_88 rfl (lv_at hl 0 rfl) ?_
                    refine g_X12_56 hF hW dX12_copy_89 ?_
                    refine lv_iload_n hx hb dX12_copy_92 rfl (lv_at hl 1 rfl) ?_
                    obtain ⟨q20, h⟩ := ck_some h
                    refine w_ild hF hW (pM_16 K a _) q20 dX12_copy_93 ?_
                    refine lv_i2l hx hb dX12_copy_94 rfl ?_
                    refine ll_gt (tgt := 117) hx hb dX12_copy_95 dX12_copy_96 (by decide) (fun q21 => ?_) (fun q21 => ?_)
                    · have h := ifp q21 h
                      exact J117 _ _ _ _ h hW (lv_sub hl [0] rfl)
                    · have h := ifn q21 h
                      refine lv_iload hx hb dX12_copy_99 (lv_at hl 4 rfl) ?_
                      refine lv_i2l hx hb dX12_copy_101 rfl ?_
                      refine lv_iload hx hb dX12_copy_102 (lv_at hl 5 rfl) ?_
                      refine lv_i2l hx hb dX12_copy_104 rfl ?_
                      refine lv_ladd hx hb dX12_copy_105 ?_
                      refine lv_aload_n hx hb dX12_copy_106 rfl (lv_at hl 0 rfl) ?_
                      refine g_X12_56 hF hW dX12_copy_107 ?_
                      refine lv_iload_n hx hb dX12_copy_110 rfl (lv_at hl 3 rfl) ?_
                      obtain ⟨q22, h⟩ := ck_some h
                      refine w_ild hF hW (pM_16 K a _) q22 dX12_copy_111 ?_
                      refine lv_i2l hx hb dX12_copy_112 rfl ?_
                      refine ll_le (tgt := 123) hx hb dX12_copy_113 dX12_copy_114 (by decide) (fun q23 => ?_) (fun q23 => ?_)
                      · have h := ifp q23 h
                        refine lv_iconst (v := 0) hx hb dX12_copy_123 (by decide) ?_
                        refine lv_istore (lv' := [(6, .int 0), (0, .ref (a 0)), (1, .int x1), (2, .int x2), (3, .int x3), (4, .int x4), (5, .int x5)]) hx hb dX12_copy_124 hl (by decide) rfl (fun ls hl => ?_)
                        exact J126 100000 x1 x2 x3 x4 x5 0 _ _ _ _ h hW (lv_sub hl [1, 2, 3, 4, 5, 6, 0] rfl)
                      · have h := ifn q23 h
                        exact J117 _ _ _ _ h hW (lv_sub hl [0] rfl)
            · have h := ifp q16 h
              exact J62 _ _ _ _ h hW (lv_sub hl [0] rfl)
        · have h := ifp q12 h
          exact J38 _ _ _ _ h hW (lv_sub hl [0] rfl)
    · have h := ifn q8 h
      refine lv_iconst (v := (-1)) hx hb dX12_copy_16 (by decide) ?_
      obtain ⟨rfl, rfl⟩ := Prod.mk.inj (Option.some.inj h)
      exact rt_i hF hr hk rfl (fun _ => 0) hW rfl dX12_copy_17
set_option maxRecDepth 100000 in
set_option maxHeartbeats 1000000 in
theorem c_X12_isArray (l : Launch) (K : Kx) (a : Nat → Nat) {M : Mem} {x1 : Int32} {r0 : Bool} (h : f_X12_isArray M x1 = some r0) : CMi l yX12_isArray cX12_isArray 2 (some .boolean) ({ frames := 1, cells := 0, slots := 0, locals := 25 } : Room) K [.ref (a 0), .int x1] (wM K a M) (fun _ => wM K a M) (bI r0) := by
  refine cs_i (by decide +kernel) (Nat.le_of_ble_eq_true rfl) ?_
  intro p e s m args below meth c A ls hF hr hk hnm hW hl
  have hx := hF.1
  have hb := hF.2.1
  have hl : lv_has ls 2 [(0, .ref (a 0)), (1, .int x1)] := hl
  obtain ⟨H, hH⟩ : ∃ z, z = s.heap := ⟨_, rfl⟩
  rw [← hH] at hW ⊢
  unfold f_X12_isArray at h
  refine lv_iload_n hx hb dX12_isArray_0 rfl (lv_at hl 1 rfl) ?_
  refine lv_i2l hx hb dX12_isArray_1 rfl ?_
  refine lv_lconst (v := 0) hx hb dX12_isArray_2 (by decide) ?_
  refine lv_aload_n hx hb dX12_isArray_3 rfl (lv_at hl 0 rfl) ?_
  refine g_X12_204 hF hW dX12_isArray_4 ?_
  refine lv_iconst (v := 1) hx hb dX12_isArray_7 (by decide) ?_
  refine lv_isub hx hb dX12_isArray_8 ?_
  refine lv_i2l hx hb dX12_isArray_9 rfl ?_
  obtain ⟨r1, hc3, h⟩ := bq_some h
  refine cS_i (rest := []) hF hW mw_X12_154 (c_X12_in l K hc3) ⟨Nat.le_of_ble_eq_true rfl, Nat.le_of_ble_eq_true rfl⟩ rfl hl.1 rfl (Nat.le_of_ble_eq_true rfl) dX12_isArray_10 ⟨Nat.le_of_ble_eq_true rfl, Nat.le_of_ble_eq_true rfl⟩ (fun _ H locs hW => ?_)
  obtain rfl := Option.some.inj h
  exact rt_i hF hr hk (bI_n _) (fun _ => 0) hW rfl dX12_isArray_13
set_option maxRecDepth 100000 in
set_option maxHeartbeats 1000000 in
theorem c_X12_array (l : Launch) (K : Kx) (a : Nat → Nat) {M M0 : Mem} {x1 : Int32} {x2 : Int32} {r0 : Int32} (h : f_X12_array M x1 x2 = some (r0, M0)) : CMi l yX12_array cX12_array 4 (some .int) ({ frames := 1, cells := 0, slots := 0, locals := 25 } : Room) K [.ref (a 0), .int x1, .int x2] (wM K a M) (fun _ => wM K a M0) r0 := by
  refine cs_i (by decide +kernel) (Nat.le_of_ble_eq_true rfl) ?_
  intro p e s m args below meth c A ls hF hr hk hnm hW hl
  have hx := hF.1
  have hb := hF.2.1
  have hl : lv_has ls 4 [(0, .ref (a 0)), (1, .int x1), (2, .int x2)] := hl
  obtain ⟨H, hH⟩ : ∃ z, z = s.heap := ⟨_, rfl⟩
  rw [← hH] at hW ⊢
  have J64 : ∀ (n64 : Nat) (x3 : Int32) (M : Mem) (H : Heap) (locs : List Loc) (ls : Array Slot), f_X12_array_64 n64 x3 M = some (r0, M0) → Wd K A s (wM K a M) H locs → lv_has ls 4 [(0, .ref (a 0)), (3, .int x3)] → W p l e ({ frames := 1, cells := 0, slots := 0, locals := 25 } : Room) s m args below meth c H locs 0 0 (EndI K A (fun _ => wM K a M0) r0 below args s ({ frames := 1, cells := 0, slots := 0, locals := 25 } : Room)) (F0 m 64 ls []) := by
    intro n64
    induction n64 with
    | zero => intro x3 M H locs ls h; exact absurd h (by simp [f_X12_array_64])
    | succ n64 ih64 =>
      intro x3 M H locs ls h hW hl
      rw [f_X12_array_64] at h
      refine lv_iload_n hx hb dX12_array_64 rfl (lv_at hl 1 rfl) ?_
      refine lv_bipush (v := 20) hx hb dX12_array_65 (by decide) ?_
      refine lv_icmp_ge (tgt := 92) hx hb dX12_array_67 (by decide) (fun q13 => ?_) (fun q13 => ?_)
      · have h := ifp q13 h
        refine lv_aload_n hx hb dX12_array_92 rfl (lv_at hl 0 rfl) ?_
        refine lv_dup hx hb dX12_array_93 rfl ?_
        refine g_X12_204 hF hW dX12_array_94 ?_
        refine lv_iconst (v := 1) hx hb dX12_array_97 (by decide) ?_
        refine lv_iadd hx hb dX12_array_98 ?_
        refine s_X12_204 (x := ((M.1 104 0) + 1)) hF hW dX12_array_99 (fun H locs hW => ?_)
        refine lv_aload_n hx hb dX12_array_102 rfl (lv_at hl 0 rfl) ?_
        refine g_X12_204 hF hW dX12_array_103 ?_
        refine lv_iconst (v := 1) hx hb dX12_array_106 (by decide) ?_
        refine lv_isub hx hb dX12_array_107 ?_
        obtain ⟨rfl, rfl⟩ := Prod.mk.inj (Option.some.inj h)
        exact rt_i hF hr hk rfl (fun _ => 0) hW rfl dX12_array_108
      · have h := ifn q13 h
        refine lv_aload_n hx hb dX12_array_70 rfl (lv_at hl 0 rfl) ?_
        refine g_X12_72 hF hW dX12_array_71 ?_
        refine lv_bipush (v := 20) hx hb dX12_array_74 (by decide) ?_
        refine lv_aload_n hx hb dX12_array_76 rfl (lv_at hl 0 rfl) ?_
        refine g_X12_204 hF hW dX12_array_77 ?_
        refine lv_imul hx hb dX12_array_80 ?_
        refine lv_iload_n hx hb dX12_array_81 rfl (lv_at hl 1 rfl) ?_
        refine lv_iadd hx hb dX12_array_82 ?_
        refine lv_bipush (v := (-9)) hx hb dX12_array_83 (by decide) ?_
        obtain ⟨q14, h⟩ := ck_some h
        refine w_ist hF hW (pM_21 K a _) q14 (uM_21 K a _ _ _) dX12_array_85 (fun H locs hW => ?_)
        refine lv_iinc (v := (x3 + 1)) (lv' := [(3, .int (x3 + 1)), (0, .ref (a 0))]) hx hb dX12_array_86 hl (k := 1) rfl rfl (by decide) rfl (fun ls hl => ?_)
        refine lv_goto (tgt := 64) hx hb dX12_array_89 (by decide) ?_
        exact ih64 (x3 + 1) _ _ _ _ h hW (lv_sub hl [1, 0] rfl)
  unfold f_X12_array at h
  refine lv_iload_n hx hb dX12_array_0 rfl (lv_at hl 1 rfl) ?_
  refine lv_i2l hx hb dX12_array_1 rfl ?_
  refine lv_lconst (v := 0) hx hb dX12_array_2 (by decide) ?_
  refine lv_ldc2 hx hb hF.2.2.2.1 (hF.2.2.1 _ kl_X12_212) dX12_array_3 ?_
  obtain ⟨r1, hc3, h⟩ := bq_some h
  refine cS_i (rest := []) hF hW mw_X12_154 (c_X12_in l K hc3) ⟨Nat.le_of_ble_eq_true rfl, Nat.le_of_ble_eq_true rfl⟩ rfl hl.1 rfl (Nat.le_of_ble_eq_true rfl) dX12_array_6 ⟨Nat.le_of_ble_eq_true rfl, Nat.le_of_ble_eq_true rfl⟩ (fun _ H locs hW => ?_)
  refine lz_eq (tgt := 18) hx hb dX12_array_9 (by decide) (fun q4 => ?_) (fun q4 => ?_)
  · have h := ifn q4 h
    refine lv_iconst (v := (-1)) hx hb dX12_array_18 (by decide) ?_
    obtain ⟨rfl, rfl⟩ := Prod.mk.inj (Option.some.inj h)
    exact rt_i hF hr hk rfl (fun _ => 0) hW rfl dX12_array_19
  · have h := ifp q4 h
    refine lv_iload_n hx hb dX12_array_12 rfl (lv_at hl 2 rfl) ?_
    refine lv_bipush (v := 20) hx hb dX12_array_13 (by decide) ?_
    refine lv_icmp_le (tgt := 20) hx hb dX12_array_15 (by decide) (fun q5 => ?_) (fun q5 => ?_)
    · have h := ifp q5 h
      refine lv_aload_n hx hb dX12_array_20 rfl (lv_at hl 0 rfl) ?_
      refine g_X12_204 hF hW dX12_array_21 ?_
      refine lv_bipush (v := 8) hx hb dX12_array_24 (by decide) ?_
      refine lv_icmp_ne (tgt := 32) hx hb dX12_array_26 (by decide) (fun q6 => ?_) (fun q6 => ?_)
      · have h := ifn q6 h
        refine lv_iload_n hx hb dX12_array_32 rfl (lv_at hl 2 rfl) ?_
        refine lv_if_ge (tgt := 42) hx hb dX12_array_33 (by decide) (fun q7 => ?_) (fun q7 => ?_)
        · have h := ifp q7 h
          refine lv_aload_n hx hb dX12_array_42 rfl (lv_at hl 0 rfl) ?_
          refine g_X12_66 hF hW dX12_array_43 ?_
          refine lv_aload_n hx hb dX12_array_46 rfl (lv_at hl 0 rfl) ?_
          refine g_X12_204 hF hW dX12_array_47 ?_
          refine lv_iload_n hx hb dX12_array_50 rfl (lv_at hl 1 rfl) ?_
          obtain ⟨q8, h⟩ := ck_some h
          refine w_ist hF hW (pM_19 K a _) q8 (uM_19 K a _ _ _) dX12_array_51 (fun H locs hW => ?_)
          refine lv_aload_n hx hb dX12_array_52 rfl (lv_at hl 0 rfl) ?_
          refine g_X12_69 hF hW dX12_array_53 ?_
          refine lv_aload_n hx hb dX12_array_56 rfl (lv_at hl 0 rfl) ?_
          refine g_X12_204 hF hW dX12_array_57 ?_
          refine lv_iload_n hx hb dX12_array_60 rfl (lv_at hl 2 rfl) ?_
          obtain ⟨q9, h⟩ := ck_some h
          refine w_ist hF hW (pM_20 K a _) q9 (uM_20 K a _ _ _) dX12_array_61 (fun H locs hW => ?_)
          refine lv_iconst (v := 0) hx hb dX12_array_62 (by decide) ?_
          refine lv_istore_n (lv' := [(3, .int 0), (0, .ref (a 0)), (1, .int x1), (2, .int x2)]) hx hb dX12_array_63 rfl hl (by decide) rfl (fun ls hl => ?_)
          exact J64 100000 0 _ _ _ _ h hW (lv_sub hl [1, 0] rfl)
        · have h := ifn q7 h
          refine lv_aload_n hx hb dX12_array_36 rfl (lv_at hl 0 rfl) ?_
          refine lv_iconst (v := 5) hx hb dX12_array_37 (by decide) ?_
          obtain ⟨r10, M11, hc12, h⟩ := bd_some h
          refine cV_i (ci := 12) (q0 := 0) (rest := []) hF hW mw_X12_207 (c_X12_meets l K a hc12) ⟨Nat.le_of_ble_eq_true rfl, Nat.le_of_ble_eq_true rfl⟩ rfl rfl (pM_0 K a _) rfl hl.1 rfl (Nat.le_of_ble_eq_true rfl) dX12_array_38 ⟨Nat.le_of_ble_eq_true rfl, Nat.le_of_ble_eq_true rfl⟩ (fun _ H locs hW => ?_)
          obtain ⟨rfl, rfl⟩ := Prod.mk.inj (Option.some.inj h)
          exact rt_i hF hr hk rfl (fun _ => 0) hW rfl dX12_array_41
      · have h := ifp q6 h
        refine lv_bipush (v := (-2)) hx hb dX12_array_29 (by decide) ?_
        obtain ⟨rfl, rfl⟩ := Prod.mk.inj (Option.some.inj h)
        exact rt_i hF hr hk rfl (fun _ => 0) hW rfl dX12_array_31
    · have h := ifn q5 h
      refine lv_iconst (v := (-1)) hx hb dX12_array_18 (by decide) ?_
      obtain ⟨rfl, rfl⟩ := Prod.mk.inj (Option.some.inj h)
      exact rt_i hF hr hk rfl (fun _ => 0) hW rfl dX12_array_19
set_option maxRecDepth 100000 in
set_option maxHeartbeats 1000000 in
theorem c_X12_row (l : Launch) (K : Kx) (a : Nat → Nat) {M M0 : Mem} {x1 : Int32} {x2 : Int32} {x3 : Int32} {r0 : Int32} (h : f_X12_row M x1 x2 x3 = some (r0, M0)) : CMi l yX12_row cX12_row 5 (some .int) ({ frames := 2, cells := 0, slots := 0, locals := 46 } : Room) K [.ref (a 0), .int x1, .int x2, .int x3] (wM K a M) (fun _ => wM K a M0) r0 := by
  refine cs_i (by decide +kernel) (Nat.le_of_ble_eq_true rfl) ?_
  intro p e s m args below meth c A ls hF hr hk hnm hW hl
  have hx := hF.1
  have hb := hF.2.1
  have hl : lv_has ls 5 [(0, .ref (a 0)), (1, .int x1), (2, .int x2), (3, .int x3)] := hl
  obtain ⟨H, hH⟩ : ∃ z, z = s.heap := ⟨_, rfl⟩
  rw [← hH] at hW ⊢
  have J65 : ∀ (n65 : Nat) (x1 : Int32) (x2 : Int32) (x3 : Int32) (x4 : Int32) (M : Mem) (H : Heap) (locs : List Loc) (ls : Array Slot), f_X12_row_65 n65 x1 x2 x3 x4 M = some (r0, M0) → Wd K A s (wM K a M) H locs → lv_has ls 5 [(0, .ref (a 0)), (1, .int x1), (2, .int x2), (3, .int x3), (4, .int x4)] → W p l e ({ frames := 2, cells := 0, slots := 0, locals := 46 } : Room) s m args below meth c H locs 0 0 (EndI K A (fun _ => wM K a M0) r0 below args s ({ frames := 2, cells := 0, slots := 0, locals := 46 } : Room)) (F0 m 65 ls []) := by
    intro n65
    induction n65 with
    | zero => intro x1 x2 x3 x4 M H locs ls h; exact absurd h (by simp [f_X12_row_65])
    | succ n65 ih65 =>
      intro x1 x2 x3 x4 M H locs ls h hW hl
      rw [f_X12_row_65] at h
      refine lv_iload hx hb dX12_row_65 (lv_at hl 4 rfl) ?_
      refine lv_bipush (v := 20) hx hb dX12_row_67 (by decide) ?_
      refine lv_icmp_ge (tgt := 97) hx hb dX12_row_69 (by decide) (fun q19 => ?_) (fun q19 => ?_)
      · have h := ifp q19 h
        refine lv_iload_n hx hb dX12_row_97 rfl (lv_at hl 3 rfl) ?_
        obtain ⟨rfl, rfl⟩ := Prod.mk.inj (Option.some.inj h)
        exact rt_i hF hr hk rfl (fun _ => 0) hW rfl dX12_row_98
      · have h := ifn q19 h
        refine lv_aload_n hx hb dX12_row_72 rfl (lv_at hl 0 rfl) ?_
        refine g_X12_75 hF hW dX12_row_73 ?_
        refine lv_sipush (v := 400) hx hb dX12_row_76 (by decide) ?_
        refine lv_iload_n hx hb dX12_row_79 rfl (lv_at hl 1 rfl) ?_
        refine lv_imul hx hb dX12_row_80 ?_
        refine lv_bipush (v := 20) hx hb dX12_row_81 (by decide) ?_
        refine lv_iload_n hx hb dX12_row_83 rfl (lv_at hl 2 rfl) ?_
        refine lv_imul hx hb dX12_row_84 ?_
        refine lv_iadd hx hb dX12_row_85 ?_
        refine lv_iload hx hb dX12_row_86 (lv_at hl 4 rfl) ?_
        refine lv_iadd hx hb dX12_row_88 ?_
        refine lv_lconst (v := 0) hx hb dX12_row_89 (by decide) ?_
        obtain ⟨q20, h⟩ := ck_some h
        refine w_lst hF hW (pM_22 K a _) q20 (uM_22 K a _ _ _) dX12_row_90 (fun H locs hW => ?_)
        refine lv_iinc (v := (x4 + 1)) (lv' := [(4, .int (x4 + 1)), (0, .ref (a 0)), (1, .int x1), (2, .int x2), (3, .int x3)]) hx hb dX12_row_91 hl (k := 4) rfl rfl (by decide) rfl (fun ls hl => ?_)
        refine lv_goto (tgt := 65) hx hb dX12_row_94 (by decide) ?_
        exact ih65 x1 x2 x3 (x4 + 1) _ _ _ _ h hW (lv_sub hl [1, 2, 3, 4, 0] rfl)
  unfold f_X12_row at h
  refine lv_aload_n hx hb dX12_row_0 rfl (lv_at hl 0 rfl) ?_
  refine lv_iload_n hx hb dX12_row_1 rfl (lv_at hl 1 rfl) ?_
  obtain ⟨r1, hc3, h⟩ := bq_some h
  refine cV_i (ci := 12) (q0 := 0) (rest := []) hF hW mw_X12_214 (c_X12_isArray l K a hc3) ⟨Nat.le_of_ble_eq_true rfl, Nat.le_of_ble_eq_true rfl⟩ rfl rfl (pM_0 K a _) rfl hl.1 rfl (Nat.le_of_ble_eq_true rfl) dX12_row_2 ⟨Nat.le_of_ble_eq_true rfl, Nat.le_of_ble_eq_true rfl⟩ (fun _ H locs hW => ?_)
  refine lz_eq (tgt := 14) hx hb dX12_row_5 (by decide) (fun q4 => ?_) (fun q4 => ?_)
  · have h := ifn q4 h
    refine lv_iconst (v := (-1)) hx hb dX12_row_14 (by decide) ?_
    obtain ⟨rfl, rfl⟩ := Prod.mk.inj (Option.some.inj h)
    exact rt_i hF hr hk rfl (fun _ => 0) hW rfl dX12_row_15
  · have h := ifp q4 h
    refine lv_iload_n hx hb dX12_row_8 rfl (lv_at hl 3 rfl) ?_
    refine lv_bipush (v := 20) hx hb dX12_row_9 (by decide) ?_
    refine lv_icmp_le (tgt := 16) hx hb dX12_row_11 (by decide) (fun q5 => ?_) (fun q5 => ?_)
    · have h := ifp q5 h
      refine lv_iload_n hx hb dX12_row_16 rfl (lv_at hl 2 rfl) ?_
      refine lv_i2l hx hb dX12_row_17 rfl ?_
      refine lv_lconst (v := 0) hx hb dX12_row_18 (by decide) ?_
      refine lv_aload_n hx hb dX12_row_19 rfl (lv_at hl 0 rfl) ?_
      refine g_X12_69 hF hW dX12_row_20 ?_
      refine lv_iload_n hx hb dX12_row_23 rfl (lv_at hl 1 rfl) ?_
      obtain ⟨q6, h⟩ := ck_some h
      refine w_ild hF hW (pM_20 K a _) q6 dX12_row_24 ?_
      refine lv_iconst (v := 1) hx hb dX12_row_25 (by decide) ?_
      refine lv_isub hx hb dX12_row_26 ?_
      refine lv_i2l hx hb dX12_row_27 rfl ?_
      obtain ⟨r7, hc9, h⟩ := bq_some h
      refine cS_i (rest := []) hF hW mw_X12_154 (c_X12_in l K hc9) ⟨Nat.le_of_ble_eq_true rfl, Nat.le_of_ble_eq_true rfl⟩ rfl hl.1 rfl (Nat.le_of_ble_eq_true rfl) dX12_row_28 ⟨Nat.le_of_ble_eq_true rfl, Nat.le_of_ble_eq_true rfl⟩ (fun _ H locs hW => ?_)
      refine lz_ne (tgt := 40) hx hb dX12_row_31 (by decide) (fun q10 => ?_) (fun q10 => ?_)
      · have h := ifp q10 h
        refine lv_iload_n hx hb dX12_row_40 rfl (lv_at hl 3 rfl) ?_
        refine lv_if_ge (tgt := 50) hx hb dX12_row_41 (by decide) (fun q11 => ?_) (fun q11 => ?_)
        · have h := ifp q11 h
          refine lv_aload_n hx hb dX12_row_50 rfl (lv_at hl 0 rfl) ?_
          refine g_X12_72 hF hW dX12_row_51 ?_
          refine lv_bipush (v := 20) hx hb dX12_row_54 (by decide) ?_
          refine lv_iload_n hx hb dX12_row_56 rfl (lv_at hl 1 rfl) ?_
          refine lv_imul hx hb dX12_row_57 ?_
          refine lv_iload_n hx hb dX12_row_58 rfl (lv_at hl 2 rfl) ?_
          refine lv_iadd hx hb dX12_row_59 ?_
          refine lv_iload_n hx hb dX12_row_60 rfl (lv_at hl 3 rfl) ?_
          obtain ⟨q12, h⟩ := ck_some h
          refine w_ist hF hW (pM_21 K a _) q12 (uM_21 K a _ _ _) dX12_row_61 (fun H locs hW => ?_)
          refine lv_iconst (v := 0) hx hb dX12_row_62 (by decide) ?_
          refine lv_istore (lv' := [(4, .int 0), (0, .ref (a 0)), (1, .int x1), (2, .int x2), (3, .int x3)]) hx hb dX12_row_63 hl (by decide) rfl (fun ls hl => ?_)
          exact J65 100000 x1 x2 x3 0 _ _ _ _ h hW (lv_sub hl [1, 2, 3, 4, 0] rfl)
        · have h := ifn q11 h
          refine lv_aload_n hx hb dX12_row_44 rfl (lv_at hl 0 rfl) ?_
          refine lv_iconst (v := 5) hx hb dX12_row_45 (by decide) ?_
          obtain ⟨r13, M14, hc15, h⟩ := bd_some h
          refine cV_i (ci := 12) (q0 := 0) (rest := []) hF hW mw_X12_207 (c_X12_meets l K a hc15) ⟨Nat.le_of_ble_eq_true rfl, Nat.le_of_ble_eq_true rfl⟩ rfl rfl (pM_0 K a _) rfl hl.1 rfl (Nat.le_of_ble_eq_true rfl) dX12_row_46 ⟨Nat.le_of_ble_eq_true rfl, Nat.le_of_ble_eq_true rfl⟩ (fun _ H locs hW => ?_)
          obtain ⟨rfl, rfl⟩ := Prod.mk.inj (Option.some.inj h)
          exact rt_i hF hr hk rfl (fun _ => 0) hW rfl dX12_row_49
      · have h := ifn q10 h
        refine lv_aload_n hx hb dX12_row_34 rfl (lv_at hl 0 rfl) ?_
        refine lv_iconst (v := 2) hx hb dX12_row_35 (by decide) ?_
        obtain ⟨r16, M17, hc18, h⟩ := bd_some h
        refine cV_i (ci := 12) (q0 := 0) (rest := []) hF hW mw_X12_207 (c_X12_meets l K a hc18) ⟨Nat.le_of_ble_eq_true rfl, Nat.le_of_ble_eq_true rfl⟩ rfl rfl (pM_0 K a _) rfl hl.1 rfl (Nat.le_of_ble_eq_true rfl) dX12_row_36 ⟨Nat.le_of_ble_eq_true rfl, Nat.le_of_ble_eq_true rfl⟩ (fun _ H locs hW => ?_)
        obtain ⟨rfl, rfl⟩ := Prod.mk.inj (Option.some.inj h)
        exact rt_i hF hr hk rfl (fun _ => 0) hW rfl dX12_row_39
    · have h := ifn q5 h
      refine lv_iconst (v := (-1)) hx hb dX12_row_14 (by decide) ?_
      obtain ⟨rfl, rfl⟩ := Prod.mk.inj (Option.some.inj h)
      exact rt_i hF hr hk rfl (fun _ => 0) hW rfl dX12_row_15
set_option maxRecDepth 100000 in
set_option maxHeartbeats 1000000 in
theorem c_X12_tear (l : Launch) (K : Kx) (a : Nat → Nat) {M M0 : Mem} {x1 : Int32} {x2 : Int32} {r0 : Int32} (h : f_X12_tear M x1 x2 = some (r0, M0)) : CMi l yX12_tear cX12_tear 3 (some .int) ({ frames := 2, cells := 0, slots := 0, locals := 46 } : Room) K [.ref (a 0), .int x1, .int x2] (wM K a M) (fun _ => wM K a M0) r0 := by
  refine cs_i (by decide +kernel) (Nat.le_of_ble_eq_true rfl) ?_
  intro p e s m args below meth c A ls hF hr hk hnm hW hl
  have hx := hF.1
  have hb := hF.2.1
  have hl : lv_has ls 3 [(0, .ref (a 0)), (1, .int x1), (2, .int x2)] := hl
  obtain ⟨H, hH⟩ : ∃ z, z = s.heap := ⟨_, rfl⟩
  rw [← hH] at hW ⊢
  unfold f_X12_tear at h
  refine lv_aload_n hx hb dX12_tear_0 rfl (lv_at hl 0 rfl) ?_
  refine lv_iload_n hx hb dX12_tear_1 rfl (lv_at hl 1 rfl) ?_
  obtain ⟨r1, hc3, h⟩ := bq_some h
  refine cV_i (ci := 12) (q0 := 0) (rest := []) hF hW mw_X12_214 (c_X12_isArray l K a hc3) ⟨Nat.le_of_ble_eq_true rfl, Nat.le_of_ble_eq_true rfl⟩ rfl rfl (pM_0 K a _) rfl hl.1 rfl (Nat.le_of_ble_eq_true rfl) dX12_tear_2 ⟨Nat.le_of_ble_eq_true rfl, Nat.le_of_ble_eq_true rfl⟩ (fun _ H locs hW => ?_)
  refine lz_ne (tgt := 10) hx hb dX12_tear_5 (by decide) (fun q4 => ?_) (fun q4 => ?_)
  · have h := ifp q4 h
    refine lv_iload_n hx hb dX12_tear_10 rfl (lv_at hl 2 rfl) ?_
    refine lv_i2l hx hb dX12_tear_11 rfl ?_
    refine lv_lconst (v := 0) hx hb dX12_tear_12 (by decide) ?_
    refine lv_aload_n hx hb dX12_tear_13 rfl (lv_at hl 0 rfl) ?_
    refine g_X12_69 hF hW dX12_tear_14 ?_
    refine lv_iload_n hx hb dX12_tear_17 rfl (lv_at hl 1 rfl) ?_
    obtain ⟨q5, h⟩ := ck_some h
    refine w_ild hF hW (pM_20 K a _) q5 dX12_tear_18 ?_
    refine lv_iconst (v := 1) hx hb dX12_tear_19 (by decide) ?_
    refine lv_isub hx hb dX12_tear_20 ?_
    refine lv_i2l hx hb dX12_tear_21 rfl ?_
    obtain ⟨r6, hc8, h⟩ := bq_some h
    refine cS_i (rest := []) hF hW mw_X12_154 (c_X12_in l K hc8) ⟨Nat.le_of_ble_eq_true rfl, Nat.le_of_ble_eq_true rfl⟩ rfl hl.1 rfl (Nat.le_of_ble_eq_true rfl) dX12_tear_22 ⟨Nat.le_of_ble_eq_true rfl, Nat.le_of_ble_eq_true rfl⟩ (fun _ H locs hW => ?_)
    refine lz_ne (tgt := 34) hx hb dX12_tear_25 (by decide) (fun q9 => ?_) (fun q9 => ?_)
    · have h := ifp q9 h
      refine lv_aload_n hx hb dX12_tear_34 rfl (lv_at hl 0 rfl) ?_
      refine g_X12_72 hF hW dX12_tear_35 ?_
      refine lv_bipush (v := 20) hx hb dX12_tear_38 (by decide) ?_
      refine lv_iload_n hx hb dX12_tear_40 rfl (lv_at hl 1 rfl) ?_
      refine lv_imul hx hb dX12_tear_41 ?_
      refine lv_iload_n hx hb dX12_tear_42 rfl (lv_at hl 2 rfl) ?_
      refine lv_iadd hx hb dX12_tear_43 ?_
      refine lv_bipush (v := (-9)) hx hb dX12_tear_44 (by decide) ?_
      obtain ⟨q10, h⟩ := ck_some h
      refine w_ist hF hW (pM_21 K a _) q10 (uM_21 K a _ _ _) dX12_tear_46 (fun H locs hW => ?_)
      refine lv_iconst (v := 1) hx hb dX12_tear_47 (by decide) ?_
      obtain ⟨rfl, rfl⟩ := Prod.mk.inj (Option.some.inj h)
      exact rt_i hF hr hk rfl (fun _ => 0) hW rfl dX12_tear_48
    · have h := ifn q9 h
      refine lv_aload_n hx hb dX12_tear_28 rfl (lv_at hl 0 rfl) ?_
      refine lv_iconst (v := 2) hx hb dX12_tear_29 (by decide) ?_
      obtain ⟨r11, M12, hc13, h⟩ := bd_some h
      refine cV_i (ci := 12) (q0 := 0) (rest := []) hF hW mw_X12_207 (c_X12_meets l K a hc13) ⟨Nat.le_of_ble_eq_true rfl, Nat.le_of_ble_eq_true rfl⟩ rfl rfl (pM_0 K a _) rfl hl.1 rfl (Nat.le_of_ble_eq_true rfl) dX12_tear_30 ⟨Nat.le_of_ble_eq_true rfl, Nat.le_of_ble_eq_true rfl⟩ (fun _ H locs hW => ?_)
      obtain ⟨rfl, rfl⟩ := Prod.mk.inj (Option.some.inj h)
      exact rt_i hF hr hk rfl (fun _ => 0) hW rfl dX12_tear_33
  · have h := ifn q4 h
    refine lv_iconst (v := (-1)) hx hb dX12_tear_8 (by decide) ?_
    obtain ⟨rfl, rfl⟩ := Prod.mk.inj (Option.some.inj h)
    exact rt_i hF hr hk rfl (fun _ => 0) hW rfl dX12_tear_9
set_option maxRecDepth 100000 in
set_option maxHeartbeats 1000000 in
theorem c_X12_lacks (l : Launch) (K : Kx) (a : Nat → Nat) {M : Mem} {x1 : Int32} {x2 : Int64} {x4 : Int64} {r0 : Int32} (h : f_X12_lacks M x1 x2 x4 = some r0) : CMi l yX12_lacks cX12_lacks 7 (some .int) ({ frames := 1, cells := 0, slots := 0, locals := 25 } : Room) K [.ref (a 0), .int x1, .long x2, .long x4] (wM K a M) (fun _ => wM K a M) r0 := by
  refine cs_i (by decide +kernel) (Nat.le_of_ble_eq_true rfl) ?_
  intro p e s m args below meth c A ls hF hr hk hnm hW hl
  have hx := hF.1
  have hb := hF.2.1
  have hl : lv_has ls 7 [(0, .ref (a 0)), (1, .int x1), (2, .long x2), (4, .long x4)] := hl
  obtain ⟨H, hH⟩ : ∃ z, z = s.heap := ⟨_, rfl⟩
  rw [← hH] at hW ⊢
  unfold f_X12_lacks at h
  refine lv_lload_n hx hb dX12_lacks_0 rfl (lv_at hl 2 rfl) ?_
  refine lv_lconst (v := 0) hx hb dX12_lacks_1 (by decide) ?_
  refine lv_aload_n hx hb dX12_lacks_2 rfl (lv_at hl 0 rfl) ?_
  refine g_X12_69 hF hW dX12_lacks_3 ?_
  refine lv_iload_n hx hb dX12_lacks_6 rfl (lv_at hl 1 rfl) ?_
  obtain ⟨q1, h⟩ := ck_some h
  refine w_ild hF hW (pM_20 K a _) q1 dX12_lacks_7 ?_
  refine lv_iconst (v := 1) hx hb dX12_lacks_8 (by decide) ?_
  refine lv_isub hx hb dX12_lacks_9 ?_
  refine lv_i2l hx hb dX12_lacks_10 rfl ?_
  obtain ⟨r2, hc4, h⟩ := bq_some h
  refine cS_i (rest := []) hF hW mw_X12_154 (c_X12_in l K hc4) ⟨Nat.le_of_ble_eq_true rfl, Nat.le_of_ble_eq_true rfl⟩ rfl hl.1 rfl (Nat.le_of_ble_eq_true rfl) dX12_lacks_11 ⟨Nat.le_of_ble_eq_true rfl, Nat.le_of_ble_eq_true rfl⟩ (fun _ H locs hW => ?_)
  refine lz_ne (tgt := 19) hx hb dX12_lacks_14 (by decide) (fun q5 => ?_) (fun q5 => ?_)
  · have h := ifp q5 h
    refine lv_aload_n hx hb dX12_lacks_19 rfl (lv_at hl 0 rfl) ?_
    refine g_X12_72 hF hW dX12_lacks_20 ?_
    refine lv_bipush (v := 20) hx hb dX12_lacks_23 (by decide) ?_
    refine lv_iload_n hx hb dX12_lacks_25 rfl (lv_at hl 1 rfl) ?_
    refine lv_imul hx hb dX12_lacks_26 ?_
    refine lv_lload_n hx hb dX12_lacks_27 rfl (lv_at hl 2 rfl) ?_
    refine lv_l2i hx hb dX12_lacks_28 rfl ?_
    refine lv_iadd hx hb dX12_lacks_29 ?_
    obtain ⟨q6, h⟩ := ck_some h
    refine w_ild hF hW (pM_21 K a _) q6 dX12_lacks_30 ?_
    refine lv_istore (lv' := [(6, .int (M.1 21 ((20 * x1) + x2.toInt32).toNatClampNeg)), (0, .ref (a 0)), (1, .int x1), (2, .long x2), (4, .long x4)]) hx hb dX12_lacks_31 hl (by decide) rfl (fun ls hl => ?_)
    refine lv_iload hx hb dX12_lacks_33 (lv_at hl 0 rfl) ?_
    refine lv_bipush (v := (-9)) hx hb dX12_lacks_35 (by decide) ?_
    refine lv_icmp_ne (tgt := 44) hx hb dX12_lacks_37 (by decide) (fun q7 => ?_) (fun q7 => ?_)
    · have h := ifn q7 h
      refine lv_lload hx hb dX12_lacks_44 (lv_at hl 4 rfl) ?_
      refine lv_lconst (v := 0) hx hb dX12_lacks_46 (by decide) ?_
      refine lv_iload hx hb dX12_lacks_47 (lv_at hl 0 rfl) ?_
      refine lv_iconst (v := 1) hx hb dX12_lacks_49 (by decide) ?_
      refine lv_isub hx hb dX12_lacks_50 ?_
      refine lv_i2l hx hb dX12_lacks_51 rfl ?_
      obtain ⟨r8, hc10, h⟩ := bq_some h
      refine cS_i (rest := []) hF hW mw_X12_154 (c_X12_in l K hc10) ⟨Nat.le_of_ble_eq_true rfl, Nat.le_of_ble_eq_true rfl⟩ rfl hl.1 rfl (Nat.le_of_ble_eq_true rfl) dX12_lacks_52 ⟨Nat.le_of_ble_eq_true rfl, Nat.le_of_ble_eq_true rfl⟩ (fun _ H locs hW => ?_)
      refine lz_eq (tgt := 62) hx hb dX12_lacks_55 (by decide) (fun q11 => ?_) (fun q11 => ?_)
      · have h := ifn q11 h
        refine lv_iconst (v := 2) hx hb dX12_lacks_62 (by decide) ?_
        obtain rfl := Option.some.inj h
        exact rt_i hF hr hk rfl (fun _ => 0) hW rfl dX12_lacks_63
      · have h := ifp q11 h
        refine lv_iconst (v := 0) hx hb dX12_lacks_58 (by decide) ?_
        refine lv_goto (tgt := 63) hx hb dX12_lacks_59 (by decide) ?_
        obtain rfl := Option.some.inj h
        exact rt_i hF hr hk rfl (fun _ => 0) hW rfl dX12_lacks_63
    · have h := ifp q7 h
      refine lv_iconst (v := 1) hx hb dX12_lacks_40 (by decide) ?_
      refine lv_goto (tgt := 63) hx hb dX12_lacks_41 (by decide) ?_
      obtain rfl := Option.some.inj h
      exact rt_i hF hr hk rfl (fun _ => 0) hW rfl dX12_lacks_63
  · have h := ifn q5 h
    refine lv_iconst (v := 2) hx hb dX12_lacks_17 (by decide) ?_
    obtain rfl := Option.some.inj h
    exact rt_i hF hr hk rfl (fun _ => 0) hW rfl dX12_lacks_18
set_option maxRecDepth 100000 in
set_option maxHeartbeats 1000000 in
theorem c_X12_at (l : Launch) (K : Kx) (a : Nat → Nat) {M : Mem} {x1 : Int32} {x2 : Int64} {x4 : Int64} {r0 : Int32} (h : f_X12_at M x1 x2 x4 = some r0) : CMi l yX12_at cX12_at 6 (some .int) ({ frames := 0, cells := 0, slots := 0, locals := 0 } : Room) K [.ref (a 0), .int x1, .long x2, .long x4] (wM K a M) (fun _ => wM K a M) r0 := by
  refine cs_i (by decide +kernel) (Nat.le_of_ble_eq_true rfl) ?_
  intro p e s m args below meth c A ls hF hr hk hnm hW hl
  have hx := hF.1
  have hb := hF.2.1
  have hl : lv_has ls 6 [(0, .ref (a 0)), (1, .int x1), (2, .long x2), (4, .long x4)] := hl
  obtain ⟨H, hH⟩ : ∃ z, z = s.heap := ⟨_, rfl⟩
  rw [← hH] at hW ⊢
  unfold f_X12_at at h
  refine lv_sipush (v := 400) hx hb dX12_at_0 (by decide) ?_
  refine lv_iload_n hx hb dX12_at_3 rfl (lv_at hl 1 rfl) ?_
  refine lv_imul hx hb dX12_at_4 ?_
  refine lv_bipush (v := 20) hx hb dX12_at_5 (by decide) ?_
  refine lv_lload_n hx hb dX12_at_7 rfl (lv_at hl 2 rfl) ?_
  refine lv_l2i hx hb dX12_at_8 rfl ?_
  refine lv_imul hx hb dX12_at_9 ?_
  refine lv_iadd hx hb dX12_at_10 ?_
  refine lv_lload hx hb dX12_at_11 (lv_at hl 3 rfl) ?_
  refine lv_l2i hx hb dX12_at_13 rfl ?_
  refine lv_iadd hx hb dX12_at_14 ?_
  obtain rfl := Option.some.inj h
  exact rt_i hF hr hk rfl (fun _ => 0) hW rfl dX12_at_15
set_option maxRecDepth 100000 in
set_option maxHeartbeats 1000000 in
theorem c_X12_cut (l : Launch) (K : Kx) {ws : va_W} {x0 : Int32} {x1 : Int64} {r0 : Int64} (h : f_X12_cut x0 x1 = some r0) : CMl l yX12_cut cX12_cut 3 ({ frames := 0, cells := 0, slots := 0, locals := 0 } : Room) K [.int x0, .long x1] ws (fun _ => ws) r0 := by
  refine cs_l (by decide +kernel) (Nat.le_of_ble_eq_true rfl) ?_
  intro p e s m args below meth c A ls hF hr hk hnm hW hl
  have hx := hF.1
  have hb := hF.2.1
  have hl : lv_has ls 3 [(0, .int x0), (1, .long x1)] := hl
  obtain ⟨H, hH⟩ : ∃ z, z = s.heap := ⟨_, rfl⟩
  rw [← hH] at hW ⊢
  unfold f_X12_cut at h
  refine lv_iload_n hx hb dX12_cut_0 rfl (lv_at hl 0 rfl) ?_
  refine lv_if_ne (tgt := 11) hx hb dX12_cut_1 (by decide) (fun q1 => ?_) (fun q1 => ?_)
  · have h := ifn q1 h
    refine lv_iload_n hx hb dX12_cut_11 rfl (lv_at hl 0 rfl) ?_
    refine lv_iconst (v := 1) hx hb dX12_cut_12 (by decide) ?_
    refine lv_icmp_ne (tgt := 23) hx hb dX12_cut_13 (by decide) (fun q2 => ?_) (fun q2 => ?_)
    · have h := ifn q2 h
      refine lv_iload_n hx hb dX12_cut_23 rfl (lv_at hl 0 rfl) ?_
      refine lv_iconst (v := 2) hx hb dX12_cut_24 (by decide) ?_
      refine lv_icmp_ne (tgt := 34) hx hb dX12_cut_25 (by decide) (fun q3 => ?_) (fun q3 => ?_)
      · have h := ifn q3 h
        refine lv_lload_n hx hb dX12_cut_34 rfl (lv_at hl 1 rfl) ?_
        obtain rfl := Option.some.inj h
        exact rt_l hF hr hk (fun _ => 0) hW rfl dX12_cut_35
      · have h := ifp q3 h
        refine lv_lload_n hx hb dX12_cut_28 rfl (lv_at hl 1 rfl) ?_
        refine lv_l2i hx hb dX12_cut_29 rfl ?_
        refine lv_i2l hx hb dX12_cut_30 rfl ?_
        refine lv_goto (tgt := 35) hx hb dX12_cut_31 (by decide) ?_
        obtain rfl := Option.some.inj h
        exact rt_l hF hr hk (fun _ => 0) hW rfl dX12_cut_35
    · have h := ifp q2 h
      refine lv_lload_n hx hb dX12_cut_16 rfl (lv_at hl 1 rfl) ?_
      refine lv_l2i hx hb dX12_cut_17 rfl ?_
      refine lv_i2s hx hb dX12_cut_18 rfl ?_
      refine lv_i2l hx hb dX12_cut_19 rfl ?_
      refine lv_goto (tgt := 35) hx hb dX12_cut_20 (by decide) ?_
      obtain rfl := Option.some.inj h
      exact rt_l hF hr hk (fun _ => 0) hW rfl dX12_cut_35
  · have h := ifp q1 h
    refine lv_lload_n hx hb dX12_cut_4 rfl (lv_at hl 1 rfl) ?_
    refine lv_l2i hx hb dX12_cut_5 rfl ?_
    refine lv_i2b hx hb dX12_cut_6 rfl ?_
    refine lv_i2l hx hb dX12_cut_7 rfl ?_
    refine lv_goto (tgt := 35) hx hb dX12_cut_8 (by decide) ?_
    obtain rfl := Option.some.inj h
    exact rt_l hF hr hk (fun _ => 0) hW rfl dX12_cut_35
