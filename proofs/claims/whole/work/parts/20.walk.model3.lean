set_option maxRecDepth 100000 in
set_option maxHeartbeats 1000000 in
theorem c_X12_isAllowed (l : Launch) (K : Kx) (a : Nat → Nat) {M M0 : Mem}  {r0 : Bool} (h : f_X12_isAllowed M = some (r0, M0)) : CMi l yX12_isAllowed cX12_isAllowed 4 (some .boolean) ({ frames := 3, cells := 0, slots := 0, locals := 69 } : Room) K [.ref (a 0)] (wM K a M) (fun _ => wM K a M0) (bI r0) := by
  refine cs_i (by decide +kernel) (Nat.le_of_ble_eq_true rfl) ?_
  intro p e s m args below meth c A ls hF hr hk hnm hW hl
  have hx := hF.1
  have hb := hF.2.1
  have hl : lv_has ls 4 [(0, .ref (a 0))] := hl
  obtain ⟨H, hH⟩ : ∃ z, z = s.heap := ⟨_, rfl⟩
  rw [← hH] at hW ⊢
  have J10 : ∀ (n10 : Nat) (x1 : Int32) (M : Mem) (H : Heap) (locs : List Loc) (ls : Array Slot), f_X12_isAllowed_10 n10 x1 M = some (r0, M0) → Wd K A s (wM K a M) H locs → lv_has ls 4 [(0, .ref (a 0)), (1, .int x1)] → W p l e ({ frames := 3, cells := 0, slots := 0, locals := 69 } : Room) s m args below meth c H locs 0 0 (EndI K A (fun _ => wM K a M0) (bI r0) below args s ({ frames := 3, cells := 0, slots := 0, locals := 69 } : Room)) (F0 m 10 ls []) := by
    intro n10
    induction n10 with
    | zero => intro x1 M H locs ls h; exact absurd h (by simp [f_X12_isAllowed_10])
    | succ n10 ih10 =>
      have J20 : ∀ (n20 : Nat) (x1 : Int32) (x2 : Int32) (M : Mem) (H : Heap) (locs : List Loc) (ls : Array Slot), f_X12_isAllowed_20 (f_X12_isAllowed_10 n10) n20 x1 x2 M = some (r0, M0) → Wd K A s (wM K a M) H locs → lv_has ls 4 [(0, .ref (a 0)), (1, .int x1), (2, .int x2)] → W p l e ({ frames := 3, cells := 0, slots := 0, locals := 69 } : Room) s m args below meth c H locs 0 0 (EndI K A (fun _ => wM K a M0) (bI r0) below args s ({ frames := 3, cells := 0, slots := 0, locals := 69 } : Room)) (F0 m 20 ls []) := by
        intro n20
        induction n20 with
        | zero => intro x1 x2 M H locs ls h; exact absurd h (by simp [f_X12_isAllowed_20])
        | succ n20 ih20 =>
          have J27 : ∀ (n27 : Nat) (x1 : Int32) (x2 : Int32) (x3 : Int32) (M : Mem) (H : Heap) (locs : List Loc) (ls : Array Slot), f_X12_isAllowed_27 (f_X12_isAllowed_20 (f_X12_isAllowed_10 n10) n20) n27 x1 x2 x3 M = some (r0, M0) → Wd K A s (wM K a M) H locs → lv_has ls 4 [(0, .ref (a 0)), (1, .int x1), (2, .int x2), (3, .int x3)] → W p l e ({ frames := 3, cells := 0, slots := 0, locals := 69 } : Room) s m args below meth c H locs 0 0 (EndI K A (fun _ => wM K a M0) (bI r0) below args s ({ frames := 3, cells := 0, slots := 0, locals := 69 } : Room)) (F0 m 27 ls []) := by
            intro n27
            induction n27 with
            | zero => intro x1 x2 x3 M H locs ls h; exact absurd h (by simp [f_X12_isAllowed_27])
            | succ n27 ih27 =>
              intro x1 x2 x3 M H locs ls h hW hl
              rw [f_X12_isAllowed_27] at h
              refine lv_iload_n hx hb dX12_isAllowed_27 rfl (lv_at hl 3 rfl) ?_
              refine lv_iconst (v := 3) hx hb dX12_isAllowed_28 (by decide) ?_
              refine lv_icmp_ge (tgt := 80) hx hb dX12_isAllowed_29 (by decide) (fun q9 => ?_) (fun q9 => ?_)
              · have h := ifp q9 h
                refine lv_iinc (v := (x2 + 1)) (lv' := [(2, .int (x2 + 1)), (0, .ref (a 0)), (1, .int x1), (3, .int x3)]) hx hb dX12_isAllowed_80 hl (k := 2) rfl rfl (by decide) rfl (fun ls hl => ?_)
                refine lv_goto (tgt := 20) hx hb dX12_isAllowed_83 (by decide) ?_
                exact ih20 x1 (x2 + 1) _ _ _ _ h hW (lv_sub hl [1, 2, 0] rfl)
              · have h := ifn q9 h
                refine lv_aload_n hx hb dX12_isAllowed_32 rfl (lv_at hl 0 rfl) ?_
                refine g_X12_127 hF hW dX12_isAllowed_33 ?_
                refine lv_iload_n hx hb dX12_isAllowed_36 rfl (lv_at hl 2 rfl) ?_
                obtain ⟨q10, h⟩ := ck_some h
                refine w_ild hF hW (pM_39 K a _) q10 dX12_isAllowed_37 ?_
                refine lv_aload_n hx hb dX12_isAllowed_38 rfl (lv_at hl 0 rfl) ?_
                refine g_X12_127 hF hW dX12_isAllowed_39 ?_
                refine lv_iload_n hx hb dX12_isAllowed_42 rfl (lv_at hl 1 rfl) ?_
                obtain ⟨q11, h⟩ := ck_some h
                refine w_ild hF hW (pM_39 K a _) q11 dX12_isAllowed_43 ?_
                refine lv_icmp_le (tgt := 80) hx hb dX12_isAllowed_44 (by decide) (fun q12 => ?_) (fun q12 => ?_)
                · have h := ifp q12 h
                  refine lv_iinc (v := (x2 + 1)) (lv' := [(2, .int (x2 + 1)), (0, .ref (a 0)), (1, .int x1), (3, .int x3)]) hx hb dX12_isAllowed_80 hl (k := 2) rfl rfl (by decide) rfl (fun ls hl => ?_)
                  refine lv_goto (tgt := 20) hx hb dX12_isAllowed_83 (by decide) ?_
                  exact ih20 x1 (x2 + 1) _ _ _ _ h hW (lv_sub hl [1, 2, 0] rfl)
                · have h := ifn q12 h
                  refine lv_aload_n hx hb dX12_isAllowed_47 rfl (lv_at hl 0 rfl) ?_
                  refine lv_iload_n hx hb dX12_isAllowed_48 rfl (lv_at hl 2 rfl) ?_
                  refine lv_iload_n hx hb dX12_isAllowed_49 rfl (lv_at hl 1 rfl) ?_
                  refine lv_iload_n hx hb dX12_isAllowed_50 rfl (lv_at hl 3 rfl) ?_
                  obtain ⟨r13, hc15, h⟩ := bq_some h
                  refine cV_i (ci := 12) (q0 := 0) (rest := []) hF hW mw_X12_285 (c_X12_isNeed l K a hc15) ⟨Nat.le_of_ble_eq_true rfl, Nat.le_of_ble_eq_true rfl⟩ rfl rfl (pM_0 K a _) rfl hl.1 rfl (Nat.le_of_ble_eq_true rfl) dX12_isAllowed_51 ⟨Nat.le_of_ble_eq_true rfl, Nat.le_of_ble_eq_true rfl⟩ (fun _ H locs hW => ?_)
                  refine lz_eq (tgt := 74) hx hb dX12_isAllowed_54 (by decide) (fun q16 => ?_) (fun q16 => ?_)
                  · have h := ifn q16 h
                    refine lv_iinc (v := (x3 + 1)) (lv' := [(3, .int (x3 + 1)), (0, .ref (a 0)), (1, .int x1), (2, .int x2)]) hx hb dX12_isAllowed_74 hl (k := 3) rfl rfl (by decide) rfl (fun ls hl => ?_)
                    refine lv_goto (tgt := 27) hx hb dX12_isAllowed_77 (by decide) ?_
                    exact ih27 x1 x2 (x3 + 1) _ _ _ _ h hW (lv_sub hl [1, 2, 3, 0] rfl)
                  · have h := ifp q16 h
                    refine lv_aload_n hx hb dX12_isAllowed_57 rfl (lv_at hl 0 rfl) ?_
                    refine lv_iload_n hx hb dX12_isAllowed_58 rfl (lv_at hl 2 rfl) ?_
                    refine s_X12_360 (x := x2) hF hW dX12_isAllowed_59 (fun H locs hW => ?_)
                    refine lv_aload_n hx hb dX12_isAllowed_62 rfl (lv_at hl 0 rfl) ?_
                    refine lv_iload_n hx hb dX12_isAllowed_63 rfl (lv_at hl 1 rfl) ?_
                    refine s_X12_363 (x := x1) hF hW dX12_isAllowed_64 (fun H locs hW => ?_)
                    refine lv_aload_n hx hb dX12_isAllowed_67 rfl (lv_at hl 0 rfl) ?_
                    refine lv_iload_n hx hb dX12_isAllowed_68 rfl (lv_at hl 3 rfl) ?_
                    refine s_X12_366 (x := x3) hF hW dX12_isAllowed_69 (fun H locs hW => ?_)
                    refine lv_iconst (v := 0) hx hb dX12_isAllowed_72 (by decide) ?_
                    obtain ⟨rfl, rfl⟩ := Prod.mk.inj (Option.some.inj h)
                    exact rt_i hF hr hk (bI_n false) (fun _ => 0) hW rfl dX12_isAllowed_73
          intro x1 x2 M H locs ls h hW hl
          rw [f_X12_isAllowed_20] at h
          refine lv_iload_n hx hb dX12_isAllowed_20 rfl (lv_at hl 2 rfl) ?_
          refine lv_iload_n hx hb dX12_isAllowed_21 rfl (lv_at hl 1 rfl) ?_
          refine lv_icmp_ge (tgt := 86) hx hb dX12_isAllowed_22 (by decide) (fun q8 => ?_) (fun q8 => ?_)
          · have h := ifp q8 h
            refine lv_iinc (v := (x1 + 1)) (lv' := [(1, .int (x1 + 1)), (0, .ref (a 0)), (2, .int x2)]) hx hb dX12_isAllowed_86 hl (k := 1) rfl rfl (by decide) rfl (fun ls hl => ?_)
            refine lv_goto (tgt := 10) hx hb dX12_isAllowed_89 (by decide) ?_
            exact ih10 (x1 + 1) _ _ _ _ h hW (lv_sub hl [1, 0] rfl)
          · have h := ifn q8 h
            refine lv_iconst (v := 0) hx hb dX12_isAllowed_25 (by decide) ?_
            refine lv_istore_n (lv' := [(3, .int 0), (0, .ref (a 0)), (1, .int x1), (2, .int x2)]) hx hb dX12_isAllowed_26 rfl hl (by decide) rfl (fun ls hl => ?_)
            exact J27 100000 x1 x2 0 _ _ _ _ h hW (lv_sub hl [1, 2, 3, 0] rfl)
      intro x1 M H locs ls h hW hl
      rw [f_X12_isAllowed_10] at h
      refine lv_iload_n hx hb dX12_isAllowed_10 rfl (lv_at hl 1 rfl) ?_
      refine lv_aload_n hx hb dX12_isAllowed_11 rfl (lv_at hl 0 rfl) ?_
      refine g_X12_239 hF hW dX12_isAllowed_12 ?_
      refine lv_icmp_ge (tgt := 92) hx hb dX12_isAllowed_15 (by decide) (fun q7 => ?_) (fun q7 => ?_)
      · have h := ifp q7 h
        refine lv_iconst (v := 1) hx hb dX12_isAllowed_92 (by decide) ?_
        obtain ⟨rfl, rfl⟩ := Prod.mk.inj (Option.some.inj h)
        exact rt_i hF hr hk (bI_n true) (fun _ => 0) hW rfl dX12_isAllowed_93
      · have h := ifn q7 h
        refine lv_iconst (v := 0) hx hb dX12_isAllowed_18 (by decide) ?_
        refine lv_istore_n (lv' := [(2, .int 0), (0, .ref (a 0)), (1, .int x1)]) hx hb dX12_isAllowed_19 rfl hl (by decide) rfl (fun ls hl => ?_)
        exact J20 100000 x1 0 _ _ _ _ h hW (lv_sub hl [1, 2, 0] rfl)
  unfold f_X12_isAllowed at h
  refine lv_aload_n hx hb dX12_isAllowed_0 rfl (lv_at hl 0 rfl) ?_
  obtain ⟨M2, hc3, h⟩ := bm_some h
  refine cV_v (ci := 12) (q0 := 0) (rest := []) hF hW mw_X12_277 (c_X12_layOrder l K a hc3) ⟨Nat.le_of_ble_eq_true rfl, Nat.le_of_ble_eq_true rfl⟩ rfl rfl (pM_0 K a _) rfl hl.1 rfl (Nat.le_of_ble_eq_true rfl) dX12_isAllowed_1 ⟨Nat.le_of_ble_eq_true rfl, Nat.le_of_ble_eq_true rfl⟩ (fun _ H locs hW => ?_)
  refine lv_aload_n hx hb dX12_isAllowed_4 rfl (lv_at hl 0 rfl) ?_
  obtain ⟨M5, hc6, h⟩ := bm_some h
  refine cV_v (ci := 12) (q0 := 0) (rest := []) hF hW mw_X12_282 (c_X12_touchAll l K a hc6) ⟨Nat.le_of_ble_eq_true rfl, Nat.le_of_ble_eq_true rfl⟩ rfl rfl (pM_0 K a _) rfl hl.1 rfl (Nat.le_of_ble_eq_true rfl) dX12_isAllowed_5 ⟨Nat.le_of_ble_eq_true rfl, Nat.le_of_ble_eq_true rfl⟩ (fun _ H locs hW => ?_)
  refine lv_iconst (v := 0) hx hb dX12_isAllowed_8 (by decide) ?_
  refine lv_istore_n (lv' := [(1, .int 0), (0, .ref (a 0))]) hx hb dX12_isAllowed_9 rfl hl (by decide) rfl (fun ls hl => ?_)
  exact J10 100000 0 _ _ _ _ h hW (lv_sub hl [1, 0] rfl)
set_option maxRecDepth 100000 in
set_option maxHeartbeats 1000000 in
theorem c_X12_meetsAt (l : Launch) (K : Kx) (a : Nat → Nat) {M : Mem} {x1 : Int32} {x2 : Int32} {r0 : Int32} (h : f_X12_meetsAt M x1 x2 = some r0) : CMi l yX12_meetsAt cX12_meetsAt 4 (some .int) ({ frames := 2, cells := 0, slots := 0, locals := 51 } : Room) K [.ref (a 0), .int x1, .int x2] (wM K a M) (fun _ => wM K a M) r0 := by
  refine cs_i (by decide +kernel) (Nat.le_of_ble_eq_true rfl) ?_
  intro p e s m args below meth c A ls hF hr hk hnm hW hl
  have hx := hF.1
  have hb := hF.2.1
  have hl : lv_has ls 4 [(0, .ref (a 0)), (1, .int x1), (2, .int x2)] := hl
  obtain ⟨H, hH⟩ : ∃ z, z = s.heap := ⟨_, rfl⟩
  rw [← hH] at hW ⊢
  unfold f_X12_meetsAt at h
  refine lv_iconst (v := 3) hx hb dX12_meetsAt_0 (by decide) ?_
  refine lv_iload_n hx hb dX12_meetsAt_1 rfl (lv_at hl 1 rfl) ?_
  refine lv_imul hx hb dX12_meetsAt_2 ?_
  refine lv_iload_n hx hb dX12_meetsAt_3 rfl (lv_at hl 2 rfl) ?_
  refine lv_iadd hx hb dX12_meetsAt_4 ?_
  refine lv_istore_n (lv' := [(3, .int ((3 * x1) + x2)), (0, .ref (a 0)), (1, .int x1), (2, .int x2)]) hx hb dX12_meetsAt_5 rfl hl (by decide) rfl (fun ls hl => ?_)
  refine lv_aload_n hx hb dX12_meetsAt_6 rfl (lv_at hl 1 rfl) ?_
  refine lv_aload_n hx hb dX12_meetsAt_7 rfl (lv_at hl 1 rfl) ?_
  refine g_X12_41 hF hW dX12_meetsAt_8 ?_
  refine lv_iload_n hx hb dX12_meetsAt_11 rfl (lv_at hl 0 rfl) ?_
  obtain ⟨q1, h⟩ := ck_some h
  refine w_ild hF hW (pM_11 K a _) q1 dX12_meetsAt_12 ?_
  refine lv_aload_n hx hb dX12_meetsAt_13 rfl (lv_at hl 1 rfl) ?_
  refine lv_aload_n hx hb dX12_meetsAt_14 rfl (lv_at hl 1 rfl) ?_
  refine g_X12_44 hF hW dX12_meetsAt_15 ?_
  refine lv_iload_n hx hb dX12_meetsAt_18 rfl (lv_at hl 0 rfl) ?_
  obtain ⟨q2, h⟩ := ck_some h
  refine w_ild hF hW (pM_12 K a _) q2 dX12_meetsAt_19 ?_
  obtain ⟨r3, hc5, h⟩ := bq_some h
  refine cV_l (ci := 12) (q0 := 0) (rest := [.int (M.1 11 ((3 * x1) + x2).toNatClampNeg), .ref (a 0)]) hF hW mw_X12_250 (c_X12_valueOf l K a hc5) ⟨Nat.le_of_ble_eq_true rfl, Nat.le_of_ble_eq_true rfl⟩ rfl rfl (pM_0 K a _) rfl hl.1 rfl (Nat.le_of_ble_eq_true rfl) dX12_meetsAt_20 ⟨Nat.le_of_ble_eq_true rfl, Nat.le_of_ble_eq_true rfl⟩ (fun _ H locs hW => ?_)
  refine lv_aload_n hx hb dX12_meetsAt_23 rfl (lv_at hl 1 rfl) ?_
  refine lv_aload_n hx hb dX12_meetsAt_24 rfl (lv_at hl 1 rfl) ?_
  refine g_X12_47 hF hW dX12_meetsAt_25 ?_
  refine lv_iload_n hx hb dX12_meetsAt_28 rfl (lv_at hl 0 rfl) ?_
  obtain ⟨q6, h⟩ := ck_some h
  refine w_ild hF hW (pM_13 K a _) q6 dX12_meetsAt_29 ?_
  obtain ⟨r7, hc9, h⟩ := bq_some h
  refine cV_l (ci := 12) (q0 := 0) (rest := [.long r3, .int (M.1 11 ((3 * x1) + x2).toNatClampNeg), .ref (a 0)]) hF hW mw_X12_250 (c_X12_valueOf l K a hc9) ⟨Nat.le_of_ble_eq_true rfl, Nat.le_of_ble_eq_true rfl⟩ rfl rfl (pM_0 K a _) rfl hl.1 rfl (Nat.le_of_ble_eq_true rfl) dX12_meetsAt_30 ⟨Nat.le_of_ble_eq_true rfl, Nat.le_of_ble_eq_true rfl⟩ (fun _ H locs hW => ?_)
  obtain ⟨r10, hc12, h⟩ := bq_some h
  refine cV_i (ci := 12) (q0 := 0) (rest := []) hF hW mw_X12_217 (c_X12_lacks l K a hc12) ⟨Nat.le_of_ble_eq_true rfl, Nat.le_of_ble_eq_true rfl⟩ rfl rfl (pM_0 K a _) rfl hl.1 rfl (Nat.le_of_ble_eq_true rfl) dX12_meetsAt_33 ⟨Nat.le_of_ble_eq_true rfl, Nat.le_of_ble_eq_true rfl⟩ (fun _ H locs hW => ?_)
  obtain rfl := Option.some.inj h
  exact rt_i hF hr hk rfl (fun _ => 0) hW rfl dX12_meetsAt_36
set_option maxRecDepth 100000 in
set_option maxHeartbeats 1000000 in
theorem c_X12_placeAt (l : Launch) (K : Kx) (a : Nat → Nat) {M : Mem} {x1 : Int32} {x2 : Int32} {r0 : Int32} (h : f_X12_placeAt M x1 x2 = some r0) : CMi l yX12_placeAt cX12_placeAt 4 (some .int) ({ frames := 1, cells := 0, slots := 0, locals := 25 } : Room) K [.ref (a 0), .int x1, .int x2] (wM K a M) (fun _ => wM K a M) r0 := by
  refine cs_i (by decide +kernel) (Nat.le_of_ble_eq_true rfl) ?_
  intro p e s m args below meth c A ls hF hr hk hnm hW hl
  have hx := hF.1
  have hb := hF.2.1
  have hl : lv_has ls 4 [(0, .ref (a 0)), (1, .int x1), (2, .int x2)] := hl
  obtain ⟨H, hH⟩ : ∃ z, z = s.heap := ⟨_, rfl⟩
  rw [← hH] at hW ⊢
  unfold f_X12_placeAt at h
  refine lv_iconst (v := 3) hx hb dX12_placeAt_0 (by decide) ?_
  refine lv_iload_n hx hb dX12_placeAt_1 rfl (lv_at hl 1 rfl) ?_
  refine lv_imul hx hb dX12_placeAt_2 ?_
  refine lv_iload_n hx hb dX12_placeAt_3 rfl (lv_at hl 2 rfl) ?_
  refine lv_iadd hx hb dX12_placeAt_4 ?_
  refine lv_istore_n (lv' := [(3, .int ((3 * x1) + x2)), (0, .ref (a 0)), (1, .int x1), (2, .int x2)]) hx hb dX12_placeAt_5 rfl hl (by decide) rfl (fun ls hl => ?_)
  refine lv_aload_n hx hb dX12_placeAt_6 rfl (lv_at hl 1 rfl) ?_
  refine lv_aload_n hx hb dX12_placeAt_7 rfl (lv_at hl 1 rfl) ?_
  refine g_X12_41 hF hW dX12_placeAt_8 ?_
  refine lv_iload_n hx hb dX12_placeAt_11 rfl (lv_at hl 0 rfl) ?_
  obtain ⟨q1, h⟩ := ck_some h
  refine w_ild hF hW (pM_11 K a _) q1 dX12_placeAt_12 ?_
  refine lv_aload_n hx hb dX12_placeAt_13 rfl (lv_at hl 1 rfl) ?_
  refine lv_aload_n hx hb dX12_placeAt_14 rfl (lv_at hl 1 rfl) ?_
  refine g_X12_44 hF hW dX12_placeAt_15 ?_
  refine lv_iload_n hx hb dX12_placeAt_18 rfl (lv_at hl 0 rfl) ?_
  obtain ⟨q2, h⟩ := ck_some h
  refine w_ild hF hW (pM_12 K a _) q2 dX12_placeAt_19 ?_
  obtain ⟨r3, hc5, h⟩ := bq_some h
  refine cV_l (ci := 12) (q0 := 0) (rest := [.int (M.1 11 ((3 * x1) + x2).toNatClampNeg), .ref (a 0)]) hF hW mw_X12_250 (c_X12_valueOf l K a hc5) ⟨Nat.le_of_ble_eq_true rfl, Nat.le_of_ble_eq_true rfl⟩ rfl rfl (pM_0 K a _) rfl hl.1 rfl (Nat.le_of_ble_eq_true rfl) dX12_placeAt_20 ⟨Nat.le_of_ble_eq_true rfl, Nat.le_of_ble_eq_true rfl⟩ (fun _ H locs hW => ?_)
  refine lv_aload_n hx hb dX12_placeAt_23 rfl (lv_at hl 1 rfl) ?_
  refine lv_aload_n hx hb dX12_placeAt_24 rfl (lv_at hl 1 rfl) ?_
  refine g_X12_47 hF hW dX12_placeAt_25 ?_
  refine lv_iload_n hx hb dX12_placeAt_28 rfl (lv_at hl 0 rfl) ?_
  obtain ⟨q6, h⟩ := ck_some h
  refine w_ild hF hW (pM_13 K a _) q6 dX12_placeAt_29 ?_
  obtain ⟨r7, hc9, h⟩ := bq_some h
  refine cV_l (ci := 12) (q0 := 0) (rest := [.long r3, .int (M.1 11 ((3 * x1) + x2).toNatClampNeg), .ref (a 0)]) hF hW mw_X12_250 (c_X12_valueOf l K a hc9) ⟨Nat.le_of_ble_eq_true rfl, Nat.le_of_ble_eq_true rfl⟩ rfl rfl (pM_0 K a _) rfl hl.1 rfl (Nat.le_of_ble_eq_true rfl) dX12_placeAt_30 ⟨Nat.le_of_ble_eq_true rfl, Nat.le_of_ble_eq_true rfl⟩ (fun _ H locs hW => ?_)
  obtain ⟨r10, hc12, h⟩ := bq_some h
  refine cV_i (ci := 12) (q0 := 0) (rest := []) hF hW mw_X12_221 (c_X12_at l K a hc12) ⟨Nat.le_of_ble_eq_true rfl, Nat.le_of_ble_eq_true rfl⟩ rfl rfl (pM_0 K a _) rfl hl.1 rfl (Nat.le_of_ble_eq_true rfl) dX12_placeAt_33 ⟨Nat.le_of_ble_eq_true rfl, Nat.le_of_ble_eq_true rfl⟩ (fun _ H locs hW => ?_)
  obtain rfl := Option.some.inj h
  exact rt_i hF hr hk rfl (fun _ => 0) hW rfl dX12_placeAt_36
set_option maxRecDepth 100000 in
set_option maxHeartbeats 1000000 in
theorem c_X12_workedOut (l : Launch) (K : Kx) (a : Nat → Nat) {M : Mem} {x1 : Int32} {x2 : Int32} {r0 : Int64} (h : f_X12_workedOut M x1 x2 = some r0) : CMl l yX12_workedOut cX12_workedOut 3 ({ frames := 0, cells := 0, slots := 0, locals := 0 } : Room) K [.ref (a 0), .int x1, .int x2] (wM K a M) (fun _ => wM K a M) r0 := by
  refine cs_l (by decide +kernel) (Nat.le_of_ble_eq_true rfl) ?_
  intro p e s m args below meth c A ls hF hr hk hnm hW hl
  have hx := hF.1
  have hb := hF.2.1
  have hl : lv_has ls 3 [(0, .ref (a 0)), (1, .int x1), (2, .int x2)] := hl
  obtain ⟨H, hH⟩ : ∃ z, z = s.heap := ⟨_, rfl⟩
  rw [← hH] at hW ⊢
  unfold f_X12_workedOut at h
  refine lv_iload_n hx hb dX12_workedOut_0 rfl (lv_at hl 1 rfl) ?_
  by_cases q1 : x1 = 0
  · have h := ifp q1 h
    refine lv_tableIn (tgt := 36) hx hb dX12_workedOut_1 (by rw [q1]; decide) (by rw [q1]; decide) (by rw [q1]; rfl) (by decide) ?_
    refine lv_aload_n hx hb dX12_workedOut_36 rfl (lv_at hl 0 rfl) ?_
    refine g_X12_372 hF hW dX12_workedOut_37 ?_
    obtain rfl := Option.some.inj h
    exact rt_l hF hr hk (fun _ => 0) hW rfl dX12_workedOut_40
  have h := ifn q1 h
  by_cases q2 : x1 = 1
  · have h := ifp q2 h
    refine lv_tableIn (tgt := 41) hx hb dX12_workedOut_1 (by rw [q2]; decide) (by rw [q2]; decide) (by rw [q2]; rfl) (by decide) ?_
    refine lv_aload_n hx hb dX12_workedOut_41 rfl (lv_at hl 0 rfl) ?_
    refine g_X12_372 hF hW dX12_workedOut_42 ?_
    refine lv_aload_n hx hb dX12_workedOut_45 rfl (lv_at hl 0 rfl) ?_
    refine g_X12_375 hF hW dX12_workedOut_46 ?_
    refine lv_ladd hx hb dX12_workedOut_49 ?_
    obtain rfl := Option.some.inj h
    exact rt_l hF hr hk (fun _ => 0) hW rfl dX12_workedOut_50
  have h := ifn q2 h
  by_cases q3 : x1 = 2
  · have h := ifp q3 h
    refine lv_tableIn (tgt := 51) hx hb dX12_workedOut_1 (by rw [q3]; decide) (by rw [q3]; decide) (by rw [q3]; rfl) (by decide) ?_
    refine lv_aload_n hx hb dX12_workedOut_51 rfl (lv_at hl 0 rfl) ?_
    refine g_X12_372 hF hW dX12_workedOut_52 ?_
    refine lv_aload_n hx hb dX12_workedOut_55 rfl (lv_at hl 0 rfl) ?_
    refine g_X12_375 hF hW dX12_workedOut_56 ?_
    refine lv_lmul hx hb dX12_workedOut_59 ?_
    obtain rfl := Option.some.inj h
    exact rt_l hF hr hk (fun _ => 0) hW rfl dX12_workedOut_60
  have h := ifn q3 h
  by_cases q4 : x1 = 3
  · have h := ifp q4 h
    refine lv_tableIn (tgt := 61) hx hb dX12_workedOut_1 (by rw [q4]; decide) (by rw [q4]; decide) (by rw [q4]; rfl) (by decide) ?_
    refine lv_aload_n hx hb dX12_workedOut_61 rfl (lv_at hl 0 rfl) ?_
    refine g_X12_375 hF hW dX12_workedOut_62 ?_
    refine lv_ldc2 hx hb hF.2.2.2.1 (hF.2.2.1 _ kl_X12_388) dX12_workedOut_65 ?_
    refine ll_ne (tgt := 80) hx hb dX12_workedOut_68 dX12_workedOut_69 (by decide) (fun q5 => ?_) (fun q5 => ?_)
    · have h := ifn q5 h
      refine lv_aload_n hx hb dX12_workedOut_80 rfl (lv_at hl 0 rfl) ?_
      refine g_X12_372 hF hW dX12_workedOut_81 ?_
      refine lv_aload_n hx hb dX12_workedOut_84 rfl (lv_at hl 0 rfl) ?_
      refine g_X12_375 hF hW dX12_workedOut_85 ?_
      obtain ⟨q6, h⟩ := nzL_some h
      refine lv_ldiv hx hb dX12_workedOut_88 q6 ?_
      obtain rfl := Option.some.inj h
      exact rt_l hF hr hk (fun _ => 0) hW rfl dX12_workedOut_89
    · have h := ifp q5 h
      refine lv_aload_n hx hb dX12_workedOut_72 rfl (lv_at hl 0 rfl) ?_
      refine g_X12_372 hF hW dX12_workedOut_73 ?_
      refine lv_lneg hx hb dX12_workedOut_76 ?_
      refine lv_goto (tgt := 89) hx hb dX12_workedOut_77 (by decide) ?_
      obtain rfl := Option.some.inj h
      exact rt_l hF hr hk (fun _ => 0) hW rfl dX12_workedOut_89
  have h := ifn q4 h
  by_cases q7 : x1 = 4
  · have h := ifp q7 h
    refine lv_tableIn (tgt := 90) hx hb dX12_workedOut_1 (by rw [q7]; decide) (by rw [q7]; decide) (by rw [q7]; rfl) (by decide) ?_
    refine lv_iload_n hx hb dX12_workedOut_90 rfl (lv_at hl 2 rfl) ?_
    refine lv_i2l hx hb dX12_workedOut_91 rfl ?_
    obtain rfl := Option.some.inj h
    exact rt_l hF hr hk (fun _ => 0) hW rfl dX12_workedOut_92
  have h := ifn q7 h
  refine lv_tableOut (tgt := 93) hx hb dX12_workedOut_1 (by have := lv_neT (a := 0) q1 (by decide) ; have := lv_neT (a := 1) q2 (by decide) ; have := lv_neT (a := 2) q3 (by decide) ; have := lv_neT (a := 3) q4 (by decide) ; have := lv_neT (a := 4) q7 (by decide); omega) (by decide) ?_
  refine lv_aload_n hx hb dX12_workedOut_93 rfl (lv_at hl 0 rfl) ?_
  refine g_X12_372 hF hW dX12_workedOut_94 ?_
  refine lv_iload_n hx hb dX12_workedOut_97 rfl (lv_at hl 2 rfl) ?_
  refine lv_i2l hx hb dX12_workedOut_98 rfl ?_
  refine lv_ladd hx hb dX12_workedOut_99 ?_
  obtain rfl := Option.some.inj h
  exact rt_l hF hr hk (fun _ => 0) hW rfl dX12_workedOut_100
set_option maxRecDepth 100000 in
set_option maxHeartbeats 1000000 in
theorem c_X12_ended (l : Launch) (K : Kx) (a : Nat → Nat) {M : Mem} {x1 : Int32} {r0 : Int32} (h : f_X12_ended M x1 = some r0) : CMi l yX12_ended cX12_ended 2 (some .int) ({ frames := 1, cells := 0, slots := 0, locals := 25 } : Room) K [.ref (a 0), .int x1] (wM K a M) (fun _ => wM K a M) r0 := by
  refine cs_i (by decide +kernel) (Nat.le_of_ble_eq_true rfl) ?_
  intro p e s m args below meth c A ls hF hr hk hnm hW hl
  have hx := hF.1
  have hb := hF.2.1
  have hl : lv_has ls 2 [(0, .ref (a 0)), (1, .int x1)] := hl
  obtain ⟨H, hH⟩ : ∃ z, z = s.heap := ⟨_, rfl⟩
  rw [← hH] at hW ⊢
  unfold f_X12_ended at h
  refine lv_iload_n hx hb dX12_ended_0 rfl (lv_at hl 1 rfl) ?_
  refine lv_i2l hx hb dX12_ended_1 rfl ?_
  refine lv_lconst (v := 0) hx hb dX12_ended_2 (by decide) ?_
  refine lv_ldc2 hx hb hF.2.2.2.1 (hF.2.2.1 _ kl_X12_152) dX12_ended_3 ?_
  obtain ⟨r1, hc3, h⟩ := bq_some h
  refine cS_i (rest := []) hF hW mw_X12_154 (c_X12_in l K hc3) ⟨Nat.le_of_ble_eq_true rfl, Nat.le_of_ble_eq_true rfl⟩ rfl hl.1 rfl (Nat.le_of_ble_eq_true rfl) dX12_ended_6 ⟨Nat.le_of_ble_eq_true rfl, Nat.le_of_ble_eq_true rfl⟩ (fun _ H locs hW => ?_)
  refine lz_eq (tgt := 21) hx hb dX12_ended_9 (by decide) (fun q4 => ?_) (fun q4 => ?_)
  · have h := ifn q4 h
    refine lv_iconst (v := (-1)) hx hb dX12_ended_21 (by decide) ?_
    obtain rfl := Option.some.inj h
    exact rt_i hF hr hk rfl (fun _ => 0) hW rfl dX12_ended_22
  · have h := ifp q4 h
    refine lv_aload_n hx hb dX12_ended_12 rfl (lv_at hl 0 rfl) ?_
    refine g_X12_130 hF hW dX12_ended_13 ?_
    refine lv_iload_n hx hb dX12_ended_16 rfl (lv_at hl 1 rfl) ?_
    obtain ⟨q5, h⟩ := ck_some h
    refine w_ild hF hW (pM_40 K a _) q5 dX12_ended_17 ?_
    refine lv_goto (tgt := 22) hx hb dX12_ended_18 (by decide) ?_
    obtain rfl := Option.some.inj h
    exact rt_i hF hr hk rfl (fun _ => 0) hW rfl dX12_ended_22
set_option maxRecDepth 100000 in
set_option maxHeartbeats 1000000 in
theorem c_X12_fetches (l : Launch) (K : Kx) (a : Nat → Nat) {M M0 : Mem} {x1 : Int32} {x2 : Int64} {x4 : Int64} {x6 : Int32} {r0 : Bool} (h : f_X12_fetches M x1 x2 x4 x6 = some (r0, M0)) : CMi l yX12_fetches cX12_fetches 10 (some .boolean) ({ frames := 0, cells := 0, slots := 0, locals := 0 } : Room) K [.ref (a 0), .int x1, .long x2, .long x4, .int x6] (wM K a M) (fun _ => wM K a M0) (bI r0) := by
  refine cs_i (by decide +kernel) (Nat.le_of_ble_eq_true rfl) ?_
  intro p e s m args below meth c A ls hF hr hk hnm hW hl
  have hx := hF.1
  have hb := hF.2.1
  have hl : lv_has ls 10 [(0, .ref (a 0)), (1, .int x1), (2, .long x2), (4, .long x4), (6, .int x6)] := hl
  obtain ⟨H, hH⟩ : ∃ z, z = s.heap := ⟨_, rfl⟩
  rw [← hH] at hW ⊢
  have J3 : ∀ (n3 : Nat) (x1 : Int32) (x2 : Int64) (x4 : Int64) (x6 : Int32) (x7 : Int32) (M : Mem) (H : Heap) (locs : List Loc) (ls : Array Slot), f_X12_fetches_3 n3 x1 x2 x4 x6 x7 M = some (r0, M0) → Wd K A s (wM K a M) H locs → lv_has ls 10 [(0, .ref (a 0)), (1, .int x1), (2, .long x2), (4, .long x4), (6, .int x6), (7, .int x7)] → W p l e ({ frames := 0, cells := 0, slots := 0, locals := 0 } : Room) s m args below meth c H locs 0 0 (EndI K A (fun _ => wM K a M0) (bI r0) below args s ({ frames := 0, cells := 0, slots := 0, locals := 0 } : Room)) (F0 m 3 ls []) := by
    intro n3
    induction n3 with
    | zero => intro x1 x2 x4 x6 x7 M H locs ls h; exact absurd h (by simp [f_X12_fetches_3])
    | succ n3 ih3 =>
      have J54 : ∀ (x1 : Int32) (x2 : Int64) (x4 : Int64) (x6 : Int32) (x7 : Int32) (M : Mem) (H : Heap) (locs : List Loc) (ls : Array Slot), f_X12_fetches_54 x1 x2 x4 x6 x7 M = some (r0, M0) → Wd K A s (wM K a M) H locs → lv_has ls 10 [(0, .ref (a 0)), (1, .int x1), (2, .long x2), (4, .long x4), (6, .int x6), (7, .int x7)] → W p l e ({ frames := 0, cells := 0, slots := 0, locals := 0 } : Room) s m args below meth c H locs 0 0 (EndI K A (fun _ => wM K a M0) (bI r0) below args s ({ frames := 0, cells := 0, slots := 0, locals := 0 } : Room)) (F0 m 54 ls []) := by
        have J68 : ∀ (x1 : Int32) (x2 : Int64) (x4 : Int64) (x6 : Int32) (x7 : Int32) (s0 : Bool) (M : Mem) (H : Heap) (locs : List Loc) (ls : Array Slot), f_X12_fetches_68 x1 x2 x4 x6 x7 s0 M = some (r0, M0) → Wd K A s (wM K a M) H locs → lv_has ls 10 [(0, .ref (a 0)), (1, .int x1), (2, .long x2), (4, .long x4), (6, .int x6), (7, .int x7)] → W p l e ({ frames := 0, cells := 0, slots := 0, locals := 0 } : Room) s m args below meth c H locs 0 0 (EndI K A (fun _ => wM K a M0) (bI r0) below args s ({ frames := 0, cells := 0, slots := 0, locals := 0 } : Room)) (F0 m 68 ls [.int (bI s0)]) := by
          have J94 : ∀ (x1 : Int32) (x2 : Int64) (x4 : Int64) (x7 : Int32) (x8 : Bool) (M : Mem) (H : Heap) (locs : List Loc) (ls : Array Slot), f_X12_fetches_94 x1 x2 x4 x7 x8 M = some (r0, M0) → Wd K A s (wM K a M) H locs → lv_has ls 10 [(0, .ref (a 0)), (1, .int x1), (2, .long x2), (4, .long x4), (7, .int x7), (8, .int (bI x8))] → W p l e ({ frames := 0, cells := 0, slots := 0, locals := 0 } : Room) s m args below meth c H locs 0 0 (EndI K A (fun _ => wM K a M0) (bI r0) below args s ({ frames := 0, cells := 0, slots := 0, locals := 0 } : Room)) (F0 m 94 ls []) := by
            have J112 : ∀ (n112 : Nat) (x1 : Int32) (x2 : Int64) (x4 : Int64) (x8 : Bool) (x9 : Int32) (M : Mem) (H : Heap) (locs : List Loc) (ls : Array Slot), f_X12_fetches_112 n112 x1 x2 x4 x8 x9 M = some (r0, M0) → Wd K A s (wM K a M) H locs → lv_has ls 10 [(0, .ref (a 0)), (1, .int x1), (2, .long x2), (4, .long x4), (8, .int (bI x8)), (9, .int x9)] → W p l e ({ frames := 0, cells := 0, slots := 0, locals := 0 } : Room) s m args below meth c H locs 0 0 (EndI K A (fun _ => wM K a M0) (bI r0) below args s ({ frames := 0, cells := 0, slots := 0, locals := 0 } : Room)) (F0 m 112 ls []) := by
              intro n112
              induction n112 with
              | zero => intro x1 x2 x4 x8 x9 M H locs ls h; exact absurd h (by simp [f_X12_fetches_112])
              | succ n112 ih112 =>
                intro x1 x2 x4 x8 x9 M H locs ls h hW hl
                rw [f_X12_fetches_112] at h
                refine lv_iload hx hb dX12_fetches_112 (lv_at hl 5 rfl) ?_
                refine lv_if_le (tgt := 171) hx hb dX12_fetches_114 (by decide) (fun q12 => ?_) (fun q12 => ?_)
                · have h := ifp q12 h
                  refine lv_aload_n hx hb dX12_fetches_171 rfl (lv_at hl 0 rfl) ?_
                  refine g_X12_133 hF hW dX12_fetches_172 ?_
                  refine lv_iconst (v := 0) hx hb dX12_fetches_175 (by decide) ?_
                  refine lv_iload_n hx hb dX12_fetches_176 rfl (lv_at hl 1 rfl) ?_
                  obtain ⟨q13, h⟩ := ck_some h
                  refine w_ist hF hW (pM_41 K a _) q13 (uM_41 K a _ _ _) dX12_fetches_177 (fun H locs hW => ?_)
                  refine lv_aload_n hx hb dX12_fetches_178 rfl (lv_at hl 0 rfl) ?_
                  refine g_X12_136 hF hW dX12_fetches_179 ?_
                  refine lv_iconst (v := 0) hx hb dX12_fetches_182 (by decide) ?_
                  refine lv_lload_n hx hb dX12_fetches_183 rfl (lv_at hl 2 rfl) ?_
                  obtain ⟨q14, h⟩ := ck_some h
                  refine w_lst hF hW (pM_42 K a _) q14 (uM_42 K a _ _ _) dX12_fetches_184 (fun H locs hW => ?_)
                  refine lv_aload_n hx hb dX12_fetches_185 rfl (lv_at hl 0 rfl) ?_
                  refine g_X12_139 hF hW dX12_fetches_186 ?_
                  refine lv_iconst (v := 0) hx hb dX12_fetches_189 (by decide) ?_
                  refine lv_lload hx hb dX12_fetches_190 (lv_at hl 3 rfl) ?_
                  obtain ⟨q15, h⟩ := ck_some h
                  refine w_lst hF hW (pM_43 K a _) q15 (uM_43 K a _ _ _) dX12_fetches_192 (fun H locs hW => ?_)
                  refine lv_iload hx hb dX12_fetches_193 (lv_at hl 4 rfl) ?_
                  obtain ⟨rfl, rfl⟩ := Prod.mk.inj (Option.some.inj h)
                  exact rt_i hF hr hk (bI_n _) (fun _ => 0) hW rfl dX12_fetches_195
                · have h := ifn q12 h
                  refine lv_aload_n hx hb dX12_fetches_117 rfl (lv_at hl 0 rfl) ?_
                  refine g_X12_133 hF hW dX12_fetches_118 ?_
                  refine lv_iload hx hb dX12_fetches_121 (lv_at hl 5 rfl) ?_
                  refine lv_aload_n hx hb dX12_fetches_123 rfl (lv_at hl 0 rfl) ?_
                  refine g_X12_133 hF hW dX12_fetches_124 ?_
                  refine lv_iload hx hb dX12_fetches_127 (lv_at hl 5 rfl) ?_
                  refine lv_iconst (v := 1) hx hb dX12_fetches_129 (by decide) ?_
                  refine lv_isub hx hb dX12_fetches_130 ?_
                  obtain ⟨q16, h⟩ := ck_some h
                  refine w_ild hF hW (pM_41 K a _) q16 dX12_fetches_131 ?_
                  obtain ⟨q17, h⟩ := ck_some h
                  refine w_ist hF hW (pM_41 K a _) q17 (uM_41 K a _ _ _) dX12_fetches_132 (fun H locs hW => ?_)
                  refine lv_aload_n hx hb dX12_fetches_133 rfl (lv_at hl 0 rfl) ?_
                  refine g_X12_136 hF hW dX12_fetches_134 ?_
                  refine lv_iload hx hb dX12_fetches_137 (lv_at hl 5 rfl) ?_
                  refine lv_aload_n hx hb dX12_fetches_139 rfl (lv_at hl 0 rfl) ?_
                  refine g_X12_136 hF hW dX12_fetches_140 ?_
                  refine lv_iload hx hb dX12_fetches_143 (lv_at hl 5 rfl) ?_
                  refine lv_iconst (v := 1) hx hb dX12_fetches_145 (by decide) ?_
                  refine lv_isub hx hb dX12_fetches_146 ?_
                  obtain ⟨q18, h⟩ := ck_some h
                  refine w_lld hF hW (pM_42 K a _) q18 dX12_fetches_147 ?_
                  obtain ⟨q19, h⟩ := ck_some h
                  refine w_lst hF hW (pM_42 K a _) q19 (uM_42 K a _ _ _) dX12_fetches_148 (fun H locs hW => ?_)
                  refine lv_aload_n hx hb dX12_fetches_149 rfl (lv_at hl 0 rfl) ?_
                  refine g_X12_139 hF hW dX12_fetches_150 ?_
                  refine lv_iload hx hb dX12_fetches_153 (lv_at hl 5 rfl) ?_
                  refine lv_aload_n hx hb dX12_fetches_155 rfl (lv_at hl 0 rfl) ?_
                  refine g_X12_139 hF hW dX12_fetches_156 ?_
                  refine lv_iload hx hb dX12_fetches_159 (lv_at hl 5 rfl) ?_
                  refine lv_iconst (v := 1) hx hb dX12_fetches_161 (by decide) ?_
                  refine lv_isub hx hb dX12_fetches_162 ?_
                  obtain ⟨q20, h⟩ := ck_some h
                  refine w_lld hF hW (pM_43 K a _) q20 dX12_fetches_163 ?_
                  obtain ⟨q21, h⟩ := ck_some h
                  refine w_lst hF hW (pM_43 K a _) q21 (uM_43 K a _ _ _) dX12_fetches_164 (fun H locs hW => ?_)
                  refine lv_iinc (v := (x9 + (-1))) (lv' := [(9, .int (x9 + (-1))), (0, .ref (a 0)), (1, .int x1), (2, .long x2), (4, .long x4), (8, .int (bI x8))]) hx hb dX12_fetches_165 hl (k := 5) rfl rfl (by decide) rfl (fun ls hl => ?_)
                  refine lv_goto (tgt := 112) hx hb dX12_fetches_168 (by decide) ?_
                  exact ih112 x1 x2 x4 x8 (x9 + (-1)) _ _ _ _ h hW (lv_sub hl [1, 2, 3, 4, 5, 0] rfl)
            intro x1 x2 x4 x7 x8 M H locs ls h hW hl
            unfold f_X12_fetches_94 at h
            refine lv_iload hx hb dX12_fetches_94 (lv_at hl 5 rfl) ?_
            refine lz_eq (tgt := 108) hx hb dX12_fetches_96 (by decide) (fun q11 => ?_) (fun q11 => ?_)
            · have h := ifn q11 h
              refine lv_iload hx hb dX12_fetches_108 (lv_at hl 4 rfl) ?_
              refine lv_istore (lv' := [(9, .int x7), (0, .ref (a 0)), (1, .int x1), (2, .long x2), (4, .long x4), (7, .int x7), (8, .int (bI x8))]) hx hb dX12_fetches_110 hl (by decide) rfl (fun ls hl => ?_)
              exact J112 100000 x1 x2 x4 x8 x7 _ _ _ _ h hW (lv_sub hl [1, 2, 3, 4, 6, 0] rfl)
            · have h := ifp q11 h
              refine lv_aload_n hx hb dX12_fetches_99 rfl (lv_at hl 0 rfl) ?_
              refine g_X12_393 hF hW dX12_fetches_100 ?_
              refine lv_iconst (v := 1) hx hb dX12_fetches_103 (by decide) ?_
              refine lv_isub hx hb dX12_fetches_104 ?_
              refine lv_goto (tgt := 110) hx hb dX12_fetches_105 (by decide) ?_
              refine lv_istore (lv' := [(9, .int ((M.1 115 0) - 1)), (0, .ref (a 0)), (1, .int x1), (2, .long x2), (4, .long x4), (7, .int x7), (8, .int (bI x8))]) hx hb dX12_fetches_110 hl (by decide) rfl (fun ls hl => ?_)
              exact J112 100000 x1 x2 x4 x8 ((M.1 115 0) - 1) _ _ _ _ h hW (lv_sub hl [1, 2, 3, 4, 6, 0] rfl)
          intro x1 x2 x4 x6 x7 s0 M H locs ls h hW hl
          unfold f_X12_fetches_68 at h
          refine lv_istore (lv' := [(8, .int (bI s0)), (0, .ref (a 0)), (1, .int x1), (2, .long x2), (4, .long x4), (6, .int x6), (7, .int x7)]) hx hb dX12_fetches_68 hl (by decide) rfl (fun ls hl => ?_)
          refine lv_iload hx hb dX12_fetches_70 (lv_at hl 0 rfl) ?_
          refine lz_eq (tgt := 94) hx hb dX12_fetches_72 (by decide) (fun q9 => ?_) (fun q9 => ?_)
          · have h := ifn q9 h
            exact J94 x1 x2 x4 x7 s0 _ _ _ _ h hW (lv_sub hl [1, 2, 3, 4, 6, 0] rfl)
          · have h := ifp q9 h
            refine lv_aload_n hx hb dX12_fetches_75 rfl (lv_at hl 1 rfl) ?_
            refine g_X12_393 hF hW dX12_fetches_76 ?_
            refine lv_iload hx hb dX12_fetches_79 (lv_at hl 5 rfl) ?_
            refine lv_icmp_ge (tgt := 94) hx hb dX12_fetches_81 (by decide) (fun q10 => ?_) (fun q10 => ?_)
            · have h := ifp q10 h
              exact J94 x1 x2 x4 x7 s0 _ _ _ _ h hW (lv_sub hl [1, 2, 3, 4, 6, 0] rfl)
            · have h := ifn q10 h
              refine lv_aload_n hx hb dX12_fetches_84 rfl (lv_at hl 1 rfl) ?_
              refine lv_dup hx hb dX12_fetches_85 rfl ?_
              refine g_X12_393 hF hW dX12_fetches_86 ?_
              refine lv_iconst (v := 1) hx hb dX12_fetches_89 (by decide) ?_
              refine lv_iadd hx hb dX12_fetches_90 ?_
              refine s_X12_393 (x := ((M.1 115 0) + 1)) hF hW dX12_fetches_91 (fun H locs hW => ?_)
              exact J94 x1 x2 x4 x7 s0 _ _ _ _ h hW (lv_sub hl [1, 2, 3, 4, 6, 0] rfl)
        intro x1 x2 x4 x6 x7 M H locs ls h hW hl
        unfold f_X12_fetches_54 at h
        refine lv_iload hx hb dX12_fetches_54 (lv_at hl 5 rfl) ?_
        refine lv_aload_n hx hb dX12_fetches_56 rfl (lv_at hl 0 rfl) ?_
        refine g_X12_393 hF hW dX12_fetches_57 ?_
        refine lv_icmp_ne (tgt := 67) hx hb dX12_fetches_60 (by decide) (fun q8 => ?_) (fun q8 => ?_)
        · have h := ifn q8 h
          refine lv_iconst (v := 0) hx hb dX12_fetches_67 (by decide) ?_
          exact J68 x1 x2 x4 x6 x7 false _ _ _ _ h hW (lv_sub hl [0, 1, 2, 3, 4, 5] rfl)
        · have h := ifp q8 h
          refine lv_iconst (v := 1) hx hb dX12_fetches_63 (by decide) ?_
          refine lv_goto (tgt := 68) hx hb dX12_fetches_64 (by decide) ?_
          exact J68 x1 x2 x4 x6 x7 true _ _ _ _ h hW (lv_sub hl [0, 1, 2, 3, 4, 5] rfl)
      intro x1 x2 x4 x6 x7 M H locs ls h hW hl
      rw [f_X12_fetches_3] at h
      refine lv_iload hx hb dX12_fetches_3 (lv_at hl 5 rfl) ?_
      refine lv_aload_n hx hb dX12_fetches_5 rfl (lv_at hl 0 rfl) ?_
      refine g_X12_393 hF hW dX12_fetches_6 ?_
      refine lv_icmp_ge (tgt := 54) hx hb dX12_fetches_9 (by decide) (fun q1 => ?_) (fun q1 => ?_)
      · have h := ifp q1 h
        exact J54 x1 x2 x4 x6 x7 _ _ _ _ h hW (lv_sub hl [0, 1, 2, 3, 4, 5] rfl)
      · have h := ifn q1 h
        refine lv_aload_n hx hb dX12_fetches_12 rfl (lv_at hl 0 rfl) ?_
        refine g_X12_133 hF hW dX12_fetches_13 ?_
        refine lv_iload hx hb dX12_fetches_16 (lv_at hl 5 rfl) ?_
        obtain ⟨q2, h⟩ := ck_some h
        refine w_ild hF hW (pM_41 K a _) q2 dX12_fetches_18 ?_
        refine lv_iload_n hx hb dX12_fetches_19 rfl (lv_at hl 1 rfl) ?_
        refine lv_icmp_ne (tgt := 48) hx hb dX12_fetches_20 (by decide) (fun q3 => ?_) (fun q3 => ?_)
        · have h := ifn q3 h
          refine lv_iinc (v := (x7 + 1)) (lv' := [(7, .int (x7 + 1)), (0, .ref (a 0)), (1, .int x1), (2, .long x2), (4, .long x4), (6, .int x6)]) hx hb dX12_fetches_48 hl (k := 5) rfl rfl (by decide) rfl (fun ls hl => ?_)
          refine lv_goto (tgt := 3) hx hb dX12_fetches_51 (by decide) ?_
          exact ih3 x1 x2 x4 x6 (x7 + 1) _ _ _ _ h hW (lv_sub hl [1, 2, 3, 4, 5, 0] rfl)
        · have h := ifp q3 h
          refine lv_aload_n hx hb dX12_fetches_23 rfl (lv_at hl 0 rfl) ?_
          refine g_X12_136 hF hW dX12_fetches_24 ?_
          refine lv_iload hx hb dX12_fetches_27 (lv_at hl 5 rfl) ?_
          obtain ⟨q4, h⟩ := ck_some h
          refine w_lld hF hW (pM_42 K a _) q4 dX12_fetches_29 ?_
          refine lv_lload_n hx hb dX12_fetches_30 rfl (lv_at hl 2 rfl) ?_
          refine ll_ne (tgt := 48) hx hb dX12_fetches_31 dX12_fetches_32 (by decide) (fun q5 => ?_) (fun q5 => ?_)
          · have h := ifn q5 h
            refine lv_iinc (v := (x7 + 1)) (lv' := [(7, .int (x7 + 1)), (0, .ref (a 0)), (1, .int x1), (2, .long x2), (4, .long x4), (6, .int x6)]) hx hb dX12_fetches_48 hl (k := 5) rfl rfl (by decide) rfl (fun ls hl => ?_)
            refine lv_goto (tgt := 3) hx hb dX12_fetches_51 (by decide) ?_
            exact ih3 x1 x2 x4 x6 (x7 + 1) _ _ _ _ h hW (lv_sub hl [1, 2, 3, 4, 5, 0] rfl)
          · have h := ifp q5 h
            refine lv_aload_n hx hb dX12_fetches_35 rfl (lv_at hl 0 rfl) ?_
            refine g_X12_139 hF hW dX12_fetches_36 ?_
            refine lv_iload hx hb dX12_fetches_39 (lv_at hl 5 rfl) ?_
            obtain ⟨q6, h⟩ := ck_some h
            refine w_lld hF hW (pM_43 K a _) q6 dX12_fetches_41 ?_
            refine lv_lload hx hb dX12_fetches_42 (lv_at hl 3 rfl) ?_
            refine ll_eq (tgt := 54) hx hb dX12_fetches_44 dX12_fetches_45 (by decide) (fun q7 => ?_) (fun q7 => ?_)
            · have h := ifp q7 h
              exact J54 x1 x2 x4 x6 x7 _ _ _ _ h hW (lv_sub hl [0, 1, 2, 3, 4, 5] rfl)
            · have h := ifn q7 h
              refine lv_iinc (v := (x7 + 1)) (lv' := [(7, .int (x7 + 1)), (0, .ref (a 0)), (1, .int x1), (2, .long x2), (4, .long x4), (6, .int x6)]) hx hb dX12_fetches_48 hl (k := 5) rfl rfl (by decide) rfl (fun ls hl => ?_)
              refine lv_goto (tgt := 3) hx hb dX12_fetches_51 (by decide) ?_
              exact ih3 x1 x2 x4 x6 (x7 + 1) _ _ _ _ h hW (lv_sub hl [1, 2, 3, 4, 5, 0] rfl)
  unfold f_X12_fetches at h
  refine lv_iconst (v := 0) hx hb dX12_fetches_0 (by decide) ?_
  refine lv_istore (lv' := [(7, .int 0), (0, .ref (a 0)), (1, .int x1), (2, .long x2), (4, .long x4), (6, .int x6)]) hx hb dX12_fetches_1 hl (by decide) rfl (fun ls hl => ?_)
  exact J3 100000 x1 x2 x4 x6 0 _ _ _ _ h hW (lv_sub hl [1, 2, 3, 4, 5, 0] rfl)
set_option maxRecDepth 100000 in
set_option maxHeartbeats 1000000 in
theorem c_X12_fetchedMany (l : Launch) (K : Kx) (a : Nat → Nat) {M M0 : Mem} {x1 : Int32} {x2 : Int32} {r0 : Int32} (h : f_X12_fetchedMany M x1 x2 = some (r0, M0)) : CMi l yX12_fetchedMany cX12_fetchedMany 9 (some .int) ({ frames := 1, cells := 0, slots := 0, locals := 29 } : Room) K [.ref (a 0), .int x1, .int x2] (wM K a M) (fun _ => wM K a M0) r0 := by
  refine cs_i (by decide +kernel) (Nat.le_of_ble_eq_true rfl) ?_
  intro p e s m args below meth c A ls hF hr hk hnm hW hl
  have hx := hF.1
  have hb := hF.2.1
  have hl : lv_has ls 9 [(0, .ref (a 0)), (1, .int x1), (2, .int x2)] := hl
  obtain ⟨H, hH⟩ : ∃ z, z = s.heap := ⟨_, rfl⟩
  rw [← hH] at hW ⊢
  have J10 : ∀ (n10 : Nat) (x1 : Int32) (x2 : Int32) (x3 : Int32) (x4 : Int32) (M : Mem) (H : Heap) (locs : List Loc) (ls : Array Slot), f_X12_fetchedMany_10 n10 x1 x2 x3 x4 M = some (r0, M0) → Wd K A s (wM K a M) H locs → lv_has ls 9 [(0, .ref (a 0)), (1, .int x1), (2, .int x2), (3, .int x3), (4, .int x4)] → W p l e ({ frames := 1, cells := 0, slots := 0, locals := 29 } : Room) s m args below meth c H locs 0 0 (EndI K A (fun _ => wM K a M0) r0 below args s ({ frames := 1, cells := 0, slots := 0, locals := 29 } : Room)) (F0 m 10 ls []) := by
    intro n10
    induction n10 with
    | zero => intro x1 x2 x3 x4 M H locs ls h; exact absurd h (by simp [f_X12_fetchedMany_10])
    | succ n10 ih10 =>
      have J31 : ∀ (n31 : Nat) (x1 : Int32) (x2 : Int32) (x3 : Int32) (x4 : Int32) (x5 : Int32) (x6 : Int32) (M : Mem) (H : Heap) (locs : List Loc) (ls : Array Slot), f_X12_fetchedMany_31 (f_X12_fetchedMany_10 n10) n31 x1 x2 x3 x4 x5 x6 M = some (r0, M0) → Wd K A s (wM K a M) H locs → lv_has ls 9 [(0, .ref (a 0)), (1, .int x1), (2, .int x2), (3, .int x3), (4, .int x4), (5, .int x5), (6, .int x6)] → W p l e ({ frames := 1, cells := 0, slots := 0, locals := 29 } : Room) s m args below meth c H locs 0 0 (EndI K A (fun _ => wM K a M0) r0 below args s ({ frames := 1, cells := 0, slots := 0, locals := 29 } : Room)) (F0 m 31 ls []) := by
        intro n31
        induction n31 with
        | zero => intro x1 x2 x3 x4 x5 x6 M H locs ls h; exact absurd h (by simp [f_X12_fetchedMany_31])
        | succ n31 ih31 =>
          intro x1 x2 x3 x4 x5 x6 M H locs ls h hW hl
          rw [f_X12_fetchedMany_31] at h
          refine lv_iload hx hb dX12_fetchedMany_31 (lv_at hl 6 rfl) ?_
          refine lv_iconst (v := 4) hx hb dX12_fetchedMany_33 (by decide) ?_
          refine lv_icmp_ge (tgt := 125) hx hb dX12_fetchedMany_34 (by decide) (fun q3 => ?_) (fun q3 => ?_)
          · have h := ifp q3 h
            refine lv_iinc (v := (x4 + 1)) (lv' := [(4, .int (x4 + 1)), (0, .ref (a 0)), (1, .int x1), (2, .int x2), (3, .int x3), (5, .int x5), (6, .int x6)]) hx hb dX12_fetchedMany_125 hl (k := 4) rfl rfl (by decide) rfl (fun ls hl => ?_)
            refine lv_goto (tgt := 10) hx hb dX12_fetchedMany_128 (by decide) ?_
            exact ih10 x1 x2 x3 (x4 + 1) _ _ _ _ h hW (lv_sub hl [1, 2, 3, 4, 0] rfl)
          · have h := ifn q3 h
            refine lv_iload hx hb dX12_fetchedMany_37 (lv_at hl 6 rfl) ?_
            refine lv_iconst (v := 3) hx hb dX12_fetchedMany_39 (by decide) ?_
            obtain ⟨q4, h⟩ := nzI_some h
            refine lv_irem hx hb dX12_fetchedMany_40 q4 ?_
            refine lv_istore (lv' := [(7, .int (x6 - x6 / 3 * 3)), (0, .ref (a 0)), (1, .int x1), (2, .int x2), (3, .int x3), (4, .int x4), (5, .int x5), (6, .int x6)]) hx hb dX12_fetchedMany_41 hl (by decide) rfl (fun ls hl => ?_)
            refine lv_aload_n hx hb dX12_fetchedMany_43 rfl (lv_at hl 1 rfl) ?_
            refine lv_iload hx hb dX12_fetchedMany_44 (lv_at hl 6 rfl) ?_
            refine lv_iload hx hb dX12_fetchedMany_46 (lv_at hl 0 rfl) ?_
            obtain ⟨r5, hc7, h⟩ := bq_some h
            refine cV_i (ci := 12) (q0 := 0) (rest := []) hF hW mw_X12_263 (c_X12_hasAim l K a hc7) ⟨Nat.le_of_ble_eq_true rfl, Nat.le_of_ble_eq_true rfl⟩ rfl rfl (pM_0 K a _) rfl hl.1 rfl (Nat.le_of_ble_eq_true rfl) dX12_fetchedMany_48 ⟨Nat.le_of_ble_eq_true rfl, Nat.le_of_ble_eq_true rfl⟩ (fun _ H locs hW => ?_)
            refine lz_eq (tgt := 119) hx hb dX12_fetchedMany_51 (by decide) (fun q8 => ?_) (fun q8 => ?_)
            · have h := ifn q8 h
              refine lv_iinc (v := (x6 + 1)) (lv' := [(6, .int (x6 + 1)), (7, .int (x6 - x6 / 3 * 3)), (0, .ref (a 0)), (1, .int x1), (2, .int x2), (3, .int x3), (4, .int x4), (5, .int x5)]) hx hb dX12_fetchedMany_119 hl (k := 7) rfl rfl (by decide) rfl (fun ls hl => ?_)
              refine lv_goto (tgt := 31) hx hb dX12_fetchedMany_122 (by decide) ?_
              exact ih31 x1 x2 x3 x4 x5 (x6 + 1) _ _ _ _ h hW (lv_sub hl [2, 3, 4, 5, 6, 7, 0] rfl)
            · have h := ifp q8 h
              refine lv_aload_n hx hb dX12_fetchedMany_54 rfl (lv_at hl 1 rfl) ?_
              refine lv_aload_n hx hb dX12_fetchedMany_55 rfl (lv_at hl 1 rfl) ?_
              refine g_X12_41 hF hW dX12_fetchedMany_56 ?_
              refine lv_iconst (v := 3) hx hb dX12_fetchedMany_59 (by decide) ?_
              refine lv_aload_n hx hb dX12_fetchedMany_60 rfl (lv_at hl 1 rfl) ?_
              refine g_X12_78 hF hW dX12_fetchedMany_61 ?_
              refine lv_iload hx hb dX12_fetchedMany_64 (lv_at hl 6 rfl) ?_
              obtain ⟨q9, h⟩ := ck_some h
              refine w_ild hF hW (pM_23 K a _) q9 dX12_fetchedMany_66 ?_
              refine lv_imul hx hb dX12_fetchedMany_67 ?_
              refine lv_iload hx hb dX12_fetchedMany_68 (lv_at hl 0 rfl) ?_
              refine lv_iadd hx hb dX12_fetchedMany_70 ?_
              obtain ⟨q10, h⟩ := ck_some h
              refine w_ild hF hW (pM_11 K a _) q10 dX12_fetchedMany_71 ?_
              refine lv_aload_n hx hb dX12_fetchedMany_72 rfl (lv_at hl 1 rfl) ?_
              refine g_X12_93 hF hW dX12_fetchedMany_73 ?_
              refine lv_iconst (v := 3) hx hb dX12_fetchedMany_76 (by decide) ?_
              refine lv_iload hx hb dX12_fetchedMany_77 (lv_at hl 6 rfl) ?_
              refine lv_imul hx hb dX12_fetchedMany_79 ?_
              refine lv_iload hx hb dX12_fetchedMany_80 (lv_at hl 0 rfl) ?_
              refine lv_iadd hx hb dX12_fetchedMany_82 ?_
              obtain ⟨q11, h⟩ := ck_some h
              refine w_lld hF hW (pM_28 K a _) q11 dX12_fetchedMany_83 ?_
              refine lv_aload_n hx hb dX12_fetchedMany_84 rfl (lv_at hl 1 rfl) ?_
              refine g_X12_96 hF hW dX12_fetchedMany_85 ?_
              refine lv_iconst (v := 3) hx hb dX12_fetchedMany_88 (by decide) ?_
              refine lv_iload hx hb dX12_fetchedMany_89 (lv_at hl 6 rfl) ?_
              refine lv_imul hx hb dX12_fetchedMany_91 ?_
              refine lv_iload hx hb dX12_fetchedMany_92 (lv_at hl 0 rfl) ?_
              refine lv_iadd hx hb dX12_fetchedMany_94 ?_
              obtain ⟨q12, h⟩ := ck_some h
              refine w_lld hF hW (pM_29 K a _) q12 dX12_fetchedMany_95 ?_
              refine lv_iload_n hx hb dX12_fetchedMany_96 rfl (lv_at hl 3 rfl) ?_
              obtain ⟨r13, hc15, h⟩ := bq_some h
              refine cS_l (rest := [.long (M.2.1 28 ((3 * x5) + (x6 - x6 / 3 * 3)).toNatClampNeg), .int (M.1 11 ((3 * (M.1 23 x5.toNatClampNeg)) + (x6 - x6 / 3 * 3)).toNatClampNeg), .ref (a 0)]) hF hW mw_X12_353 (c_X12_cutDown l K hc15) ⟨Nat.le_of_ble_eq_true rfl, Nat.le_of_ble_eq_true rfl⟩ rfl hl.1 rfl (Nat.le_of_ble_eq_true rfl) dX12_fetchedMany_97 ⟨Nat.le_of_ble_eq_true rfl, Nat.le_of_ble_eq_true rfl⟩ (fun _ H locs hW => ?_)
              refine lv_iload_n hx hb dX12_fetchedMany_100 rfl (lv_at hl 2 rfl) ?_
              obtain ⟨r16, M17, hc18, h⟩ := bd_some h
              refine cV_i (ci := 12) (q0 := 0) (rest := []) hF hW mw_X12_396 (c_X12_fetches l K a hc18) ⟨Nat.le_of_ble_eq_true rfl, Nat.le_of_ble_eq_true rfl⟩ rfl rfl (pM_0 K a _) rfl hl.1 rfl (Nat.le_of_ble_eq_true rfl) dX12_fetchedMany_101 ⟨Nat.le_of_ble_eq_true rfl, Nat.le_of_ble_eq_true rfl⟩ (fun _ H locs hW => ?_)
              refine lv_istore (lv' := [(8, .int (bI r16)), (7, .int (x6 - x6 / 3 * 3)), (0, .ref (a 0)), (1, .int x1), (2, .int x2), (3, .int x3), (4, .int x4), (5, .int x5), (6, .int x6)]) hx hb dX12_fetchedMany_104 hl (by decide) rfl (fun ls hl => ?_)
              refine lv_iload_n hx hb dX12_fetchedMany_106 rfl (lv_at hl 5 rfl) ?_
              refine lv_iload hx hb dX12_fetchedMany_107 (lv_at hl 0 rfl) ?_
              refine lz_eq (tgt := 116) hx hb dX12_fetchedMany_109 (by decide) (fun q19 => ?_) (fun q19 => ?_)
              · have h := ifn q19 h
                refine lv_iconst (v := 0) hx hb dX12_fetchedMany_116 (by decide) ?_
                refine lv_iadd hx hb dX12_fetchedMany_117 ?_
                refine lv_istore_n (lv' := [(3, .int (x3 + 0)), (8, .int (bI r16)), (7, .int (x6 - x6 / 3 * 3)), (0, .ref (a 0)), (1, .int x1), (2, .int x2), (4, .int x4), (5, .int x5), (6, .int x6)]) hx hb dX12_fetchedMany_118 rfl hl (by decide) rfl (fun ls hl => ?_)
                refine lv_iinc (v := (x6 + 1)) (lv' := [(6, .int (x6 + 1)), (3, .int (x3 + 0)), (8, .int (bI r16)), (7, .int (x6 - x6 / 3 * 3)), (0, .ref (a 0)), (1, .int x1), (2, .int x2), (4, .int x4), (5, .int x5)]) hx hb dX12_fetchedMany_119 hl (k := 8) rfl rfl (by decide) rfl (fun ls hl => ?_)
                refine lv_goto (tgt := 31) hx hb dX12_fetchedMany_122 (by decide) ?_
                exact ih31 x1 x2 (x3 + 0) x4 x5 (x6 + 1) _ _ _ _ h hW (lv_sub hl [4, 5, 6, 1, 7, 8, 0] rfl)
              · have h := ifp q19 h
                refine lv_iconst (v := 1) hx hb dX12_fetchedMany_112 (by decide) ?_
                refine lv_goto (tgt := 117) hx hb dX12_fetchedMany_113 (by decide) ?_
                refine lv_iadd hx hb dX12_fetchedMany_117 ?_
                refine lv_istore_n (lv' := [(3, .int (x3 + 1)), (8, .int (bI r16)), (7, .int (x6 - x6 / 3 * 3)), (0, .ref (a 0)), (1, .int x1), (2, .int x2), (4, .int x4), (5, .int x5), (6, .int x6)]) hx hb dX12_fetchedMany_118 rfl hl (by decide) rfl (fun ls hl => ?_)
                refine lv_iinc (v := (x6 + 1)) (lv' := [(6, .int (x6 + 1)), (3, .int (x3 + 1)), (8, .int (bI r16)), (7, .int (x6 - x6 / 3 * 3)), (0, .ref (a 0)), (1, .int x1), (2, .int x2), (4, .int x4), (5, .int x5)]) hx hb dX12_fetchedMany_119 hl (k := 8) rfl rfl (by decide) rfl (fun ls hl => ?_)
                refine lv_goto (tgt := 31) hx hb dX12_fetchedMany_122 (by decide) ?_
                exact ih31 x1 x2 (x3 + 1) x4 x5 (x6 + 1) _ _ _ _ h hW (lv_sub hl [4, 5, 6, 1, 7, 8, 0] rfl)
      intro x1 x2 x3 x4 M H locs ls h hW hl
      rw [f_X12_fetchedMany_10] at h
      refine lv_iload hx hb dX12_fetchedMany_10 (lv_at hl 4 rfl) ?_
      refine lv_aload_n hx hb dX12_fetchedMany_12 rfl (lv_at hl 0 rfl) ?_
      refine g_X12_239 hF hW dX12_fetchedMany_13 ?_
      refine lv_icmp_ge (tgt := 131) hx hb dX12_fetchedMany_16 (by decide) (fun q1 => ?_) (fun q1 => ?_)
      · have h := ifp q1 h
        refine lv_iload_n hx hb dX12_fetchedMany_131 rfl (lv_at hl 3 rfl) ?_
        obtain ⟨rfl, rfl⟩ := Prod.mk.inj (Option.some.inj h)
        exact rt_i hF hr hk rfl (fun _ => 0) hW rfl dX12_fetchedMany_132
      · have h := ifn q1 h
        refine lv_aload_n hx hb dX12_fetchedMany_19 rfl (lv_at hl 0 rfl) ?_
        refine g_X12_124 hF hW dX12_fetchedMany_20 ?_
        refine lv_iload hx hb dX12_fetchedMany_23 (lv_at hl 4 rfl) ?_
        obtain ⟨q2, h⟩ := ck_some h
        refine w_ild hF hW (pM_38 K a _) q2 dX12_fetchedMany_25 ?_
        refine lv_istore (lv' := [(5, .int (M.1 38 x4.toNatClampNeg)), (0, .ref (a 0)), (1, .int x1), (2, .int x2), (3, .int x3), (4, .int x4)]) hx hb dX12_fetchedMany_26 hl (by decide) rfl (fun ls hl => ?_)
        refine lv_iconst (v := 1) hx hb dX12_fetchedMany_28 (by decide) ?_
        refine lv_istore (lv' := [(6, .int 1), (5, .int (M.1 38 x4.toNatClampNeg)), (0, .ref (a 0)), (1, .int x1), (2, .int x2), (3, .int x3), (4, .int x4)]) hx hb dX12_fetchedMany_29 hl (by decide) rfl (fun ls hl => ?_)
        exact J31 100000 x1 x2 x3 x4 (M.1 38 x4.toNatClampNeg) 1 _ _ _ _ h hW (lv_sub hl [2, 3, 4, 5, 6, 1, 0] rfl)
  unfold f_X12_fetchedMany at h
  refine lv_aload_n hx hb dX12_fetchedMany_0 rfl (lv_at hl 0 rfl) ?_
  refine lv_iconst (v := 0) hx hb dX12_fetchedMany_1 (by decide) ?_
  refine s_X12_393 (x := 0) hF hW dX12_fetchedMany_2 (fun H locs hW => ?_)
  refine lv_iconst (v := 0) hx hb dX12_fetchedMany_5 (by decide) ?_
  refine lv_istore_n (lv' := [(3, .int 0), (0, .ref (a 0)), (1, .int x1), (2, .int x2)]) hx hb dX12_fetchedMany_6 rfl hl (by decide) rfl (fun ls hl => ?_)
  refine lv_iconst (v := 0) hx hb dX12_fetchedMany_7 (by decide) ?_
  refine lv_istore (lv' := [(4, .int 0), (3, .int 0), (0, .ref (a 0)), (1, .int x1), (2, .int x2)]) hx hb dX12_fetchedMany_8 hl (by decide) rfl (fun ls hl => ?_)
  exact J10 100000 x1 x2 0 0 _ _ _ _ h hW (lv_sub hl [2, 3, 4, 1, 0] rfl)
set_option maxRecDepth 100000 in
set_option maxHeartbeats 1000000 in
theorem c_X12_make (l : Launch) (K : Kx) (a : Nat → Nat) {M M0 : Mem} {x1 : Int32} {x2 : Int32}  (h : f_X12_make M x1 x2 = some M0) : CMv l yX12_make cX12_make 3 ({ frames := 3, cells := 0, slots := 0, locals := 73 } : Room) K [.ref (a 0), .int x1, .int x2] (wM K a M) (fun _ => wM K a M0) := by
  refine cs_v (by decide +kernel) (Nat.le_of_ble_eq_true rfl) ?_
  intro p e s m args below meth c A ls hF hr hk hnm hW hl
  have hx := hF.1
  have hb := hF.2.1
  have hl : lv_has ls 3 [(0, .ref (a 0)), (1, .int x1), (2, .int x2)] := hl
  obtain ⟨H, hH⟩ : ∃ z, z = s.heap := ⟨_, rfl⟩
  rw [← hH] at hW ⊢
  unfold f_X12_make at h
  refine lv_iload_n hx hb dX12_make_0 rfl (lv_at hl 2 rfl) ?_
  refine lv_iconst (v := 4) hx hb dX12_make_1 (by decide) ?_
  refine lv_icmp_ne (tgt := 13) hx hb dX12_make_2 (by decide) (fun q1 => ?_) (fun q1 => ?_)
  · have h := ifn q1 h
    refine lv_iload_n hx hb dX12_make_13 rfl (lv_at hl 2 rfl) ?_
    refine lv_if_le (tgt := 23) hx hb dX12_make_14 (by decide) (fun q2 => ?_) (fun q2 => ?_)
    · have h := ifp q2 h
      obtain rfl := Option.some.inj h
      exact rt_v hF hr hk (fun _ => 0) hW dX12_make_23
    · have h := ifn q2 h
      refine lv_aload_n hx hb dX12_make_17 rfl (lv_at hl 0 rfl) ?_
      refine lv_iload_n hx hb dX12_make_18 rfl (lv_at hl 1 rfl) ?_
      refine lv_iload_n hx hb dX12_make_19 rfl (lv_at hl 2 rfl) ?_
      obtain ⟨M4, hc5, h⟩ := bm_some h
      refine cV_v (ci := 12) (q0 := 0) (rest := []) hF hW mw_X12_320 (c_X12_swapRows l K a hc5) ⟨Nat.le_of_ble_eq_true rfl, Nat.le_of_ble_eq_true rfl⟩ rfl rfl (pM_0 K a _) rfl hl.1 rfl (Nat.le_of_ble_eq_true rfl) dX12_make_20 ⟨Nat.le_of_ble_eq_true rfl, Nat.le_of_ble_eq_true rfl⟩ (fun _ H locs hW => ?_)
      obtain rfl := Option.some.inj h
      exact rt_v hF hr hk (fun _ => 0) hW dX12_make_23
  · have h := ifp q1 h
    refine lv_aload_n hx hb dX12_make_5 rfl (lv_at hl 0 rfl) ?_
    refine lv_iload_n hx hb dX12_make_6 rfl (lv_at hl 1 rfl) ?_
    obtain ⟨M7, hc8, h⟩ := bm_some h
    refine cV_v (ci := 12) (q0 := 0) (rest := []) hF hW mw_X12_339 (c_X12_turnBack l K a hc8) ⟨Nat.le_of_ble_eq_true rfl, Nat.le_of_ble_eq_true rfl⟩ rfl rfl (pM_0 K a _) rfl hl.1 rfl (Nat.le_of_ble_eq_true rfl) dX12_make_7 ⟨Nat.le_of_ble_eq_true rfl, Nat.le_of_ble_eq_true rfl⟩ (fun _ H locs hW => ?_)
    refine lv_goto (tgt := 23) hx hb dX12_make_10 (by decide) ?_
    obtain rfl := Option.some.inj h
    exact rt_v hF hr hk (fun _ => 0) hW dX12_make_23
set_option maxRecDepth 100000 in
set_option maxHeartbeats 1000000 in
theorem c_X12_goesOnWith (l : Launch) (K : Kx) (a : Nat → Nat) {M : Mem} {x1 : Int32} {x2 : Int32} {r0 : Bool} (h : f_X12_goesOnWith M x1 x2 = some r0) : CMi l yX12_goesOnWith cX12_goesOnWith 9 (some .boolean) ({ frames := 0, cells := 0, slots := 0, locals := 0 } : Room) K [.ref (a 0), .int x1, .int x2] (wM K a M) (fun _ => wM K a M) (bI r0) := by
  refine cs_i (by decide +kernel) (Nat.le_of_ble_eq_true rfl) ?_
  intro p e s m args below meth c A ls hF hr hk hnm hW hl
  have hx := hF.1
  have hb := hF.2.1
  have hl : lv_has ls 9 [(0, .ref (a 0)), (1, .int x1), (2, .int x2)] := hl
  obtain ⟨H, hH⟩ : ∃ z, z = s.heap := ⟨_, rfl⟩
  rw [← hH] at hW ⊢
  have J59 : ∀ (n59 : Nat) (x3 : Int32) (x4 : Int32) (x5 : Int32) (x6 : Int32) (x7 : Bool) (x8 : Int32) (M : Mem) (H : Heap) (locs : List Loc) (ls : Array Slot), f_X12_goesOnWith_59 n59 x3 x4 x5 x6 x7 x8 M = some r0 → Wd K A s (wM K a M) H locs → lv_has ls 9 [(0, .ref (a 0)), (3, .int x3), (4, .int x4), (5, .int x5), (6, .int x6), (7, .int (bI x7)), (8, .int x8)] → W p l e ({ frames := 0, cells := 0, slots := 0, locals := 0 } : Room) s m args below meth c H locs 0 0 (EndI K A (fun _ => wM K a M) (bI r0) below args s ({ frames := 0, cells := 0, slots := 0, locals := 0 } : Room)) (F0 m 59 ls []) := by
    intro n59
    induction n59 with
    | zero => intro x3 x4 x5 x6 x7 x8 M H locs ls h; exact absurd h (by simp [f_X12_goesOnWith_59])
    | succ n59 ih59 =>
      intro x3 x4 x5 x6 x7 x8 M H locs ls h hW hl
      rw [f_X12_goesOnWith_59] at h
      refine lv_iload hx hb dX12_goesOnWith_59 (lv_at hl 6 rfl) ?_
      refine lv_iconst (v := 4) hx hb dX12_goesOnWith_61 (by decide) ?_
      refine lv_icmp_ge (tgt := 136) hx hb dX12_goesOnWith_62 (by decide) (fun q8 => ?_) (fun q8 => ?_)
      · have h := ifp q8 h
        refine lv_iload hx hb dX12_goesOnWith_136 (lv_at hl 5 rfl) ?_
        obtain rfl := Option.some.inj h
        exact rt_i hF hr hk (bI_n _) (fun _ => 0) hW rfl dX12_goesOnWith_138
      · have h := ifn q8 h
        refine lv_iload hx hb dX12_goesOnWith_65 (lv_at hl 5 rfl) ?_
        refine lz_eq (tgt := 127) hx hb dX12_goesOnWith_67 (by decide) (fun q9 => ?_) (fun q9 => ?_)
        · have h := ifn q9 h
          refine lv_iconst (v := 0) hx hb dX12_goesOnWith_127 (by decide) ?_
          refine lv_istore (lv' := [(7, .int 0), (0, .ref (a 0)), (3, .int x3), (4, .int x4), (5, .int x5), (6, .int x6), (8, .int x8)]) hx hb dX12_goesOnWith_128 hl (by decide) rfl (fun ls hl => ?_)
          refine lv_iinc (v := (x8 + 1)) (lv' := [(8, .int (x8 + 1)), (7, .int 0), (0, .ref (a 0)), (3, .int x3), (4, .int x4), (5, .int x5), (6, .int x6)]) hx hb dX12_goesOnWith_130 hl (k := 6) rfl rfl (by decide) rfl (fun ls hl => ?_)
          refine lv_goto (tgt := 59) hx hb dX12_goesOnWith_133 (by decide) ?_
          exact ih59 x3 x4 x5 x6 false (x8 + 1) _ _ _ _ h hW (lv_sub hl [2, 3, 4, 5, 6, 1, 0] rfl)
        · have h := ifp q9 h
          refine lv_aload_n hx hb dX12_goesOnWith_70 rfl (lv_at hl 0 rfl) ?_
          refine g_X12_81 hF hW dX12_goesOnWith_71 ?_
          refine lv_iconst (v := 4) hx hb dX12_goesOnWith_74 (by decide) ?_
          refine lv_iload hx hb dX12_goesOnWith_75 (lv_at hl 3 rfl) ?_
          refine lv_imul hx hb dX12_goesOnWith_77 ?_
          refine lv_iload hx hb dX12_goesOnWith_78 (lv_at hl 6 rfl) ?_
          refine lv_iadd hx hb dX12_goesOnWith_80 ?_
          obtain ⟨q10, h⟩ := ck_some h
          refine w_lld hF hW (pM_24 K a _) q10 dX12_goesOnWith_81 ?_
          refine lv_aload_n hx hb dX12_goesOnWith_82 rfl (lv_at hl 0 rfl) ?_
          refine g_X12_81 hF hW dX12_goesOnWith_83 ?_
          refine lv_iconst (v := 4) hx hb dX12_goesOnWith_86 (by decide) ?_
          refine lv_iload hx hb dX12_goesOnWith_87 (lv_at hl 2 rfl) ?_
          refine lv_imul hx hb dX12_goesOnWith_89 ?_
          refine lv_iload hx hb dX12_goesOnWith_90 (lv_at hl 6 rfl) ?_
          refine lv_iadd hx hb dX12_goesOnWith_92 ?_
          obtain ⟨q11, h⟩ := ck_some h
          refine w_lld hF hW (pM_24 K a _) q11 dX12_goesOnWith_93 ?_
          refine lv_lsub hx hb dX12_goesOnWith_94 ?_
          refine lv_aload_n hx hb dX12_goesOnWith_95 rfl (lv_at hl 0 rfl) ?_
          refine g_X12_81 hF hW dX12_goesOnWith_96 ?_
          refine lv_iconst (v := 4) hx hb dX12_goesOnWith_99 (by decide) ?_
          refine lv_iload hx hb dX12_goesOnWith_100 (lv_at hl 4 rfl) ?_
          refine lv_imul hx hb dX12_goesOnWith_102 ?_
          refine lv_iload hx hb dX12_goesOnWith_103 (lv_at hl 6 rfl) ?_
          refine lv_iadd hx hb dX12_goesOnWith_105 ?_
          obtain ⟨q12, h⟩ := ck_some h
          refine w_lld hF hW (pM_24 K a _) q12 dX12_goesOnWith_106 ?_
          refine lv_aload_n hx hb dX12_goesOnWith_107 rfl (lv_at hl 0 rfl) ?_
          refine g_X12_81 hF hW dX12_goesOnWith_108 ?_
          refine lv_iconst (v := 4) hx hb dX12_goesOnWith_111 (by decide) ?_
          refine lv_iload_n hx hb dX12_goesOnWith_112 rfl (lv_at hl 1 rfl) ?_
          refine lv_imul hx hb dX12_goesOnWith_113 ?_
          refine lv_iload hx hb dX12_goesOnWith_114 (lv_at hl 6 rfl) ?_
          refine lv_iadd hx hb dX12_goesOnWith_116 ?_
          obtain ⟨q13, h⟩ := ck_some h
          refine w_lld hF hW (pM_24 K a _) q13 dX12_goesOnWith_117 ?_
          refine lv_lsub hx hb dX12_goesOnWith_118 ?_
          refine ll_ne (tgt := 127) hx hb dX12_goesOnWith_119 dX12_goesOnWith_120 (by decide) (fun q14 => ?_) (fun q14 => ?_)
          · have h := ifn q14 h
            refine lv_iconst (v := 0) hx hb dX12_goesOnWith_127 (by decide) ?_
            refine lv_istore (lv' := [(7, .int 0), (0, .ref (a 0)), (3, .int x3), (4, .int x4), (5, .int x5), (6, .int x6), (8, .int x8)]) hx hb dX12_goesOnWith_128 hl (by decide) rfl (fun ls hl => ?_)
            refine lv_iinc (v := (x8 + 1)) (lv' := [(8, .int (x8 + 1)), (7, .int 0), (0, .ref (a 0)), (3, .int x3), (4, .int x4), (5, .int x5), (6, .int x6)]) hx hb dX12_goesOnWith_130 hl (k := 6) rfl rfl (by decide) rfl (fun ls hl => ?_)
            refine lv_goto (tgt := 59) hx hb dX12_goesOnWith_133 (by decide) ?_
            exact ih59 x3 x4 x5 x6 false (x8 + 1) _ _ _ _ h hW (lv_sub hl [2, 3, 4, 5, 6, 1, 0] rfl)
          · have h := ifp q14 h
            refine lv_iconst (v := 1) hx hb dX12_goesOnWith_123 (by decide) ?_
            refine lv_goto (tgt := 128) hx hb dX12_goesOnWith_124 (by decide) ?_
            refine lv_istore (lv' := [(7, .int 1), (0, .ref (a 0)), (3, .int x3), (4, .int x4), (5, .int x5), (6, .int x6), (8, .int x8)]) hx hb dX12_goesOnWith_128 hl (by decide) rfl (fun ls hl => ?_)
            refine lv_iinc (v := (x8 + 1)) (lv' := [(8, .int (x8 + 1)), (7, .int 1), (0, .ref (a 0)), (3, .int x3), (4, .int x4), (5, .int x5), (6, .int x6)]) hx hb dX12_goesOnWith_130 hl (k := 6) rfl rfl (by decide) rfl (fun ls hl => ?_)
            refine lv_goto (tgt := 59) hx hb dX12_goesOnWith_133 (by decide) ?_
            exact ih59 x3 x4 x5 x6 true (x8 + 1) _ _ _ _ h hW (lv_sub hl [2, 3, 4, 5, 6, 1, 0] rfl)
  unfold f_X12_goesOnWith at h
  refine lv_aload_n hx hb dX12_goesOnWith_0 rfl (lv_at hl 0 rfl) ?_
  refine g_X12_124 hF hW dX12_goesOnWith_1 ?_
  refine lv_iload_n hx hb dX12_goesOnWith_4 rfl (lv_at hl 1 rfl) ?_
  obtain ⟨q1, h⟩ := ck_some h
  refine w_ild hF hW (pM_38 K a _) q1 dX12_goesOnWith_5 ?_
  refine lv_istore_n (lv' := [(3, .int (M.1 38 x1.toNatClampNeg)), (0, .ref (a 0)), (1, .int x1), (2, .int x2)]) hx hb dX12_goesOnWith_6 rfl hl (by decide) rfl (fun ls hl => ?_)
  refine lv_aload_n hx hb dX12_goesOnWith_7 rfl (lv_at hl 1 rfl) ?_
  refine g_X12_124 hF hW dX12_goesOnWith_8 ?_
  refine lv_iload_n hx hb dX12_goesOnWith_11 rfl (lv_at hl 3 rfl) ?_
  refine lv_iconst (v := 1) hx hb dX12_goesOnWith_12 (by decide) ?_
  refine lv_isub hx hb dX12_goesOnWith_13 ?_
  obtain ⟨q2, h⟩ := ck_some h
  refine w_ild hF hW (pM_38 K a _) q2 dX12_goesOnWith_14 ?_
  refine lv_istore (lv' := [(4, .int (M.1 38 (x2 - 1).toNatClampNeg)), (3, .int (M.1 38 x1.toNatClampNeg)), (0, .ref (a 0)), (1, .int x1), (2, .int x2)]) hx hb dX12_goesOnWith_15 hl (by decide) rfl (fun ls hl => ?_)
  refine lv_aload_n hx hb dX12_goesOnWith_17 rfl (lv_at hl 2 rfl) ?_
  refine g_X12_124 hF hW dX12_goesOnWith_18 ?_
  refine lv_iload_n hx hb dX12_goesOnWith_21 rfl (lv_at hl 4 rfl) ?_
  obtain ⟨q3, h⟩ := ck_some h
  refine w_ild hF hW (pM_38 K a _) q3 dX12_goesOnWith_22 ?_
  refine lv_istore (lv' := [(5, .int (M.1 38 x2.toNatClampNeg)), (4, .int (M.1 38 (x2 - 1).toNatClampNeg)), (3, .int (M.1 38 x1.toNatClampNeg)), (0, .ref (a 0)), (1, .int x1), (2, .int x2)]) hx hb dX12_goesOnWith_23 hl (by decide) rfl (fun ls hl => ?_)
  refine lv_aload_n hx hb dX12_goesOnWith_25 rfl (lv_at hl 3 rfl) ?_
  refine g_X12_78 hF hW dX12_goesOnWith_26 ?_
  refine lv_iload hx hb dX12_goesOnWith_29 (lv_at hl 0 rfl) ?_
  obtain ⟨q4, h⟩ := ck_some h
  refine w_ild hF hW (pM_23 K a _) q4 dX12_goesOnWith_31 ?_
  refine lv_aload_n hx hb dX12_goesOnWith_32 rfl (lv_at hl 3 rfl) ?_
  refine g_X12_78 hF hW dX12_goesOnWith_33 ?_
  refine lv_iload_n hx hb dX12_goesOnWith_36 rfl (lv_at hl 2 rfl) ?_
  obtain ⟨q5, h⟩ := ck_some h
  refine w_ild hF hW (pM_23 K a _) q5 dX12_goesOnWith_37 ?_
  refine lv_icmp_eq (tgt := 43) hx hb dX12_goesOnWith_38 (by decide) (fun q6 => ?_) (fun q6 => ?_)
  · have h := ifp q6 h
    refine lv_aload_n hx hb dX12_goesOnWith_43 rfl (lv_at hl 3 rfl) ?_
    refine g_X12_124 hF hW dX12_goesOnWith_44 ?_
    refine lv_iload_n hx hb dX12_goesOnWith_47 rfl (lv_at hl 4 rfl) ?_
    refine lv_iconst (v := 1) hx hb dX12_goesOnWith_48 (by decide) ?_
    refine lv_iadd hx hb dX12_goesOnWith_49 ?_
    obtain ⟨q7, h⟩ := ck_some h
    refine w_ild hF hW (pM_38 K a _) q7 dX12_goesOnWith_50 ?_
    refine lv_istore (lv' := [(6, .int (M.1 38 (x1 + 1).toNatClampNeg)), (5, .int (M.1 38 x2.toNatClampNeg)), (4, .int (M.1 38 (x2 - 1).toNatClampNeg)), (3, .int (M.1 38 x1.toNatClampNeg)), (0, .ref (a 0)), (1, .int x1), (2, .int x2)]) hx hb dX12_goesOnWith_51 hl (by decide) rfl (fun ls hl => ?_)
    refine lv_iconst (v := 1) hx hb dX12_goesOnWith_53 (by decide) ?_
    refine lv_istore (lv' := [(7, .int 1), (6, .int (M.1 38 (x1 + 1).toNatClampNeg)), (5, .int (M.1 38 x2.toNatClampNeg)), (4, .int (M.1 38 (x2 - 1).toNatClampNeg)), (3, .int (M.1 38 x1.toNatClampNeg)), (0, .ref (a 0)), (1, .int x1), (2, .int x2)]) hx hb dX12_goesOnWith_54 hl (by decide) rfl (fun ls hl => ?_)
    refine lv_iconst (v := 0) hx hb dX12_goesOnWith_56 (by decide) ?_
    refine lv_istore (lv' := [(8, .int 0), (7, .int 1), (6, .int (M.1 38 (x1 + 1).toNatClampNeg)), (5, .int (M.1 38 x2.toNatClampNeg)), (4, .int (M.1 38 (x2 - 1).toNatClampNeg)), (3, .int (M.1 38 x1.toNatClampNeg)), (0, .ref (a 0)), (1, .int x1), (2, .int x2)]) hx hb dX12_goesOnWith_57 hl (by decide) rfl (fun ls hl => ?_)
    exact J59 100000 (M.1 38 x1.toNatClampNeg) (M.1 38 (x2 - 1).toNatClampNeg) (M.1 38 x2.toNatClampNeg) (M.1 38 (x1 + 1).toNatClampNeg) true 0 _ _ _ _ h hW (lv_sub hl [6, 5, 4, 3, 2, 1, 0] rfl)
  · have h := ifn q6 h
    refine lv_iconst (v := 0) hx hb dX12_goesOnWith_41 (by decide) ?_
    obtain rfl := Option.some.inj h
    exact rt_i hF hr hk (bI_n false) (fun _ => 0) hW rfl dX12_goesOnWith_42
set_option maxRecDepth 100000 in
set_option maxHeartbeats 1000000 in
theorem c_X12_layLines (l : Launch) (K : Kx) (a : Nat → Nat) {M M0 : Mem}   (h : f_X12_layLines M = some M0) : CMv l yX12_layLines cX12_layLines 3 ({ frames := 2, cells := 0, slots := 0, locals := 52 } : Room) K [.ref (a 0)] (wM K a M) (fun _ => wM K a M0) := by
  refine cs_v (by decide +kernel) (Nat.le_of_ble_eq_true rfl) ?_
  intro p e s m args below meth c A ls hF hr hk hnm hW hl
  have hx := hF.1
  have hb := hF.2.1
  have hl : lv_has ls 3 [(0, .ref (a 0))] := hl
  obtain ⟨H, hH⟩ : ∃ z, z = s.heap := ⟨_, rfl⟩
  rw [← hH] at hW ⊢
  have J11 : ∀ (n11 : Nat) (x1 : Int32) (M : Mem) (H : Heap) (locs : List Loc) (ls : Array Slot), f_X12_layLines_11 n11 x1 M = some M0 → Wd K A s (wM K a M) H locs → lv_has ls 3 [(0, .ref (a 0)), (1, .int x1)] → W p l e ({ frames := 2, cells := 0, slots := 0, locals := 52 } : Room) s m args below meth c H locs 0 0 (EndV K A (fun _ => wM K a M0) below args s ({ frames := 2, cells := 0, slots := 0, locals := 52 } : Room)) (F0 m 11 ls []) := by
    intro n11
    induction n11 with
    | zero => intro x1 M H locs ls h; exact absurd h (by simp [f_X12_layLines_11])
    | succ n11 ih11 =>
      have J44 : ∀ (n44 : Nat) (x1 : Int32) (x2 : Int32) (M : Mem) (H : Heap) (locs : List Loc) (ls : Array Slot), f_X12_layLines_44 (f_X12_layLines_11 n11) n44 x1 x2 M = some M0 → Wd K A s (wM K a M) H locs → lv_has ls 3 [(0, .ref (a 0)), (1, .int x1), (2, .int x2)] → W p l e ({ frames := 2, cells := 0, slots := 0, locals := 52 } : Room) s m args below meth c H locs 0 0 (EndV K A (fun _ => wM K a M0) below args s ({ frames := 2, cells := 0, slots := 0, locals := 52 } : Room)) (F0 m 44 ls []) := by
        intro n44
        induction n44 with
        | zero => intro x1 x2 M H locs ls h; exact absurd h (by simp [f_X12_layLines_44])
        | succ n44 ih44 =>
          intro x1 x2 M H locs ls h hW hl
          rw [f_X12_layLines_44] at h
          refine lv_iload_n hx hb dX12_layLines_44 rfl (lv_at hl 1 rfl) ?_
          refine lv_aload_n hx hb dX12_layLines_45 rfl (lv_at hl 0 rfl) ?_
          refine g_X12_239 hF hW dX12_layLines_46 ?_
          refine lv_icmp_ge (tgt := 67) hx hb dX12_layLines_49 (by decide) (fun q7 => ?_) (fun q7 => ?_)
          · have h := ifp q7 h
            refine lv_goto (tgt := 11) hx hb dX12_layLines_67 (by decide) ?_
            exact ih11 x1 _ _ _ _ h hW (lv_sub hl [0, 1] rfl)
          · have h := ifn q7 h
            refine lv_aload_n hx hb dX12_layLines_52 rfl (lv_at hl 0 rfl) ?_
            refine lv_iload_n hx hb dX12_layLines_53 rfl (lv_at hl 2 rfl) ?_
            refine lv_iload_n hx hb dX12_layLines_54 rfl (lv_at hl 1 rfl) ?_
            obtain ⟨r8, hc10, h⟩ := bq_some h
            refine cV_i (ci := 12) (q0 := 0) (rest := []) hF hW mw_X12_411 (c_X12_goesOnWith l K a hc10) ⟨Nat.le_of_ble_eq_true rfl, Nat.le_of_ble_eq_true rfl⟩ rfl rfl (pM_0 K a _) rfl hl.1 rfl (Nat.le_of_ble_eq_true rfl) dX12_layLines_55 ⟨Nat.le_of_ble_eq_true rfl, Nat.le_of_ble_eq_true rfl⟩ (fun _ H locs hW => ?_)
            refine lz_eq (tgt := 67) hx hb dX12_layLines_58 (by decide) (fun q11 => ?_) (fun q11 => ?_)
            · have h := ifn q11 h
              refine lv_goto (tgt := 11) hx hb dX12_layLines_67 (by decide) ?_
              exact ih11 x1 _ _ _ _ h hW (lv_sub hl [0, 1] rfl)
            · have h := ifp q11 h
              refine lv_iinc (v := (x1 + 1)) (lv' := [(1, .int (x1 + 1)), (0, .ref (a 0)), (2, .int x2)]) hx hb dX12_layLines_61 hl (k := 1) rfl rfl (by decide) rfl (fun ls hl => ?_)
              refine lv_goto (tgt := 44) hx hb dX12_layLines_64 (by decide) ?_
              exact ih44 (x1 + 1) x2 _ _ _ _ h hW (lv_sub hl [1, 0, 2] rfl)
      intro x1 M H locs ls h hW hl
      rw [f_X12_layLines_11] at h
      refine lv_iload_n hx hb dX12_layLines_11 rfl (lv_at hl 1 rfl) ?_
      refine lv_aload_n hx hb dX12_layLines_12 rfl (lv_at hl 0 rfl) ?_
      refine g_X12_239 hF hW dX12_layLines_13 ?_
      refine lv_icmp_ge (tgt := 70) hx hb dX12_layLines_16 (by decide) (fun q4 => ?_) (fun q4 => ?_)
      · have h := ifp q4 h
        refine lv_aload_n hx hb dX12_layLines_70 rfl (lv_at hl 0 rfl) ?_
        refine g_X12_142 hF hW dX12_layLines_71 ?_
        refine lv_aload_n hx hb dX12_layLines_74 rfl (lv_at hl 0 rfl) ?_
        refine g_X12_408 hF hW dX12_layLines_75 ?_
        refine lv_aload_n hx hb dX12_layLines_78 rfl (lv_at hl 0 rfl) ?_
        refine g_X12_239 hF hW dX12_layLines_79 ?_
        obtain ⟨q5, h⟩ := ck_some h
        refine w_ist hF hW (pM_44 K a _) q5 (uM_44 K a _ _ _) dX12_layLines_82 (fun H locs hW => ?_)
        obtain rfl := Option.some.inj h
        exact rt_v hF hr hk (fun _ => 0) hW dX12_layLines_83
      · have h := ifn q4 h
        refine lv_aload_n hx hb dX12_layLines_19 rfl (lv_at hl 0 rfl) ?_
        refine g_X12_142 hF hW dX12_layLines_20 ?_
        refine lv_aload_n hx hb dX12_layLines_23 rfl (lv_at hl 0 rfl) ?_
        refine g_X12_408 hF hW dX12_layLines_24 ?_
        refine lv_iload_n hx hb dX12_layLines_27 rfl (lv_at hl 1 rfl) ?_
        obtain ⟨q6, h⟩ := ck_some h
        refine w_ist hF hW (pM_44 K a _) q6 (uM_44 K a _ _ _) dX12_layLines_28 (fun H locs hW => ?_)
        refine lv_aload_n hx hb dX12_layLines_29 rfl (lv_at hl 0 rfl) ?_
        refine lv_dup hx hb dX12_layLines_30 rfl ?_
        refine g_X12_408 hF hW dX12_layLines_31 ?_
        refine lv_iconst (v := 1) hx hb dX12_layLines_34 (by decide) ?_
        refine lv_iadd hx hb dX12_layLines_35 ?_
        refine s_X12_408 (x := (((sI M 44 (M.1 116 0).toNatClampNeg x1).1 116 0) + 1)) hF hW dX12_layLines_36 (fun H locs hW => ?_)
        refine lv_iload_n hx hb dX12_layLines_39 rfl (lv_at hl 1 rfl) ?_
        refine lv_istore_n (lv' := [(2, .int x1), (0, .ref (a 0)), (1, .int x1)]) hx hb dX12_layLines_40 rfl hl (by decide) rfl (fun ls hl => ?_)
        refine lv_iinc (v := (x1 + 1)) (lv' := [(1, .int (x1 + 1)), (2, .int x1), (0, .ref (a 0))]) hx hb dX12_layLines_41 hl (k := 2) rfl rfl (by decide) rfl (fun ls hl => ?_)
        exact J44 100000 (x1 + 1) x1 _ _ _ _ h hW (lv_sub hl [2, 0, 1] rfl)
  unfold f_X12_layLines at h
  refine lv_aload_n hx hb dX12_layLines_0 rfl (lv_at hl 0 rfl) ?_
  obtain ⟨M2, hc3, h⟩ := bm_some h
  refine cV_v (ci := 12) (q0 := 0) (rest := []) hF hW mw_X12_277 (c_X12_layOrder l K a hc3) ⟨Nat.le_of_ble_eq_true rfl, Nat.le_of_ble_eq_true rfl⟩ rfl rfl (pM_0 K a _) rfl hl.1 rfl (Nat.le_of_ble_eq_true rfl) dX12_layLines_1 ⟨Nat.le_of_ble_eq_true rfl, Nat.le_of_ble_eq_true rfl⟩ (fun _ H locs hW => ?_)
  refine lv_aload_n hx hb dX12_layLines_4 rfl (lv_at hl 0 rfl) ?_
  refine lv_iconst (v := 0) hx hb dX12_layLines_5 (by decide) ?_
  refine s_X12_408 (x := 0) hF hW dX12_layLines_6 (fun H locs hW => ?_)
  refine lv_iconst (v := 0) hx hb dX12_layLines_9 (by decide) ?_
  refine lv_istore_n (lv' := [(1, .int 0), (0, .ref (a 0))]) hx hb dX12_layLines_10 rfl hl (by decide) rfl (fun ls hl => ?_)
  exact J11 100000 0 _ _ _ _ h hW (lv_sub hl [1, 0] rfl)
set_option maxRecDepth 100000 in
set_option maxHeartbeats 1000000 in
theorem c_X12_count (l : Launch) (K : Kx) (a : Nat → Nat) {M : Mem} {x1 : Int32} {r0 : Int32} (h : f_X12_count M x1 = some r0) : CMi l yX12_count cX12_count 2 (some .int) ({ frames := 0, cells := 0, slots := 0, locals := 0 } : Room) K [.ref (a 0), .int x1] (wM K a M) (fun _ => wM K a M) r0 := by
  refine cs_i (by decide +kernel) (Nat.le_of_ble_eq_true rfl) ?_
  intro p e s m args below meth c A ls hF hr hk hnm hW hl
  have hx := hF.1
  have hb := hF.2.1
  have hl : lv_has ls 2 [(0, .ref (a 0)), (1, .int x1)] := hl
  obtain ⟨H, hH⟩ : ∃ z, z = s.heap := ⟨_, rfl⟩
  rw [← hH] at hW ⊢
  unfold f_X12_count at h
  refine lv_iload_n hx hb dX12_count_0 rfl (lv_at hl 1 rfl) ?_
  by_cases q1 : x1 = 0
  · have h := ifp q1 h
    refine lv_tableIn (tgt := 36) hx hb dX12_count_1 (by rw [q1]; decide) (by rw [q1]; decide) (by rw [q1]; rfl) (by decide) ?_
    refine lv_aload_n hx hb dX12_count_36 rfl (lv_at hl 0 rfl) ?_
    refine g_X12_145 hF hW dX12_count_37 ?_
    obtain rfl := Option.some.inj h
    exact rt_i hF hr hk rfl (fun _ => 0) hW rfl dX12_count_40
  have h := ifn q1 h
  by_cases q2 : x1 = 1
  · have h := ifp q2 h
    refine lv_tableIn (tgt := 41) hx hb dX12_count_1 (by rw [q2]; decide) (by rw [q2]; decide) (by rw [q2]; rfl) (by decide) ?_
    refine lv_aload_n hx hb dX12_count_41 rfl (lv_at hl 0 rfl) ?_
    refine g_X12_170 hF hW dX12_count_42 ?_
    obtain rfl := Option.some.inj h
    exact rt_i hF hr hk rfl (fun _ => 0) hW rfl dX12_count_45
  have h := ifn q2 h
  by_cases q3 : x1 = 2
  · have h := ifp q3 h
    refine lv_tableIn (tgt := 46) hx hb dX12_count_1 (by rw [q3]; decide) (by rw [q3]; decide) (by rw [q3]; rfl) (by decide) ?_
    refine lv_aload_n hx hb dX12_count_46 rfl (lv_at hl 0 rfl) ?_
    refine g_X12_201 hF hW dX12_count_47 ?_
    obtain rfl := Option.some.inj h
    exact rt_i hF hr hk rfl (fun _ => 0) hW rfl dX12_count_50
  have h := ifn q3 h
  by_cases q4 : x1 = 3
  · have h := ifp q4 h
    refine lv_tableIn (tgt := 51) hx hb dX12_count_1 (by rw [q4]; decide) (by rw [q4]; decide) (by rw [q4]; rfl) (by decide) ?_
    refine lv_aload_n hx hb dX12_count_51 rfl (lv_at hl 0 rfl) ?_
    refine g_X12_204 hF hW dX12_count_52 ?_
    obtain rfl := Option.some.inj h
    exact rt_i hF hr hk rfl (fun _ => 0) hW rfl dX12_count_55
  have h := ifn q4 h
  by_cases q5 : x1 = 4
  · have h := ifp q5 h
    refine lv_tableIn (tgt := 56) hx hb dX12_count_1 (by rw [q5]; decide) (by rw [q5]; decide) (by rw [q5]; rfl) (by decide) ?_
    refine lv_aload_n hx hb dX12_count_56 rfl (lv_at hl 0 rfl) ?_
    refine g_X12_298 hF hW dX12_count_57 ?_
    obtain rfl := Option.some.inj h
    exact rt_i hF hr hk rfl (fun _ => 0) hW rfl dX12_count_60
  have h := ifn q5 h
  refine lv_tableOut (tgt := 61) hx hb dX12_count_1 (by have := lv_neT (a := 0) q1 (by decide) ; have := lv_neT (a := 1) q2 (by decide) ; have := lv_neT (a := 2) q3 (by decide) ; have := lv_neT (a := 3) q4 (by decide) ; have := lv_neT (a := 4) q5 (by decide); omega) (by decide) ?_
  refine lv_iconst (v := (-1)) hx hb dX12_count_61 (by decide) ?_
  obtain rfl := Option.some.inj h
  exact rt_i hF hr hk rfl (fun _ => 0) hW rfl dX12_count_62
set_option maxRecDepth 100000 in
set_option maxHeartbeats 1000000 in
theorem c_X12_digest (l : Launch) (K : Kx) (a : Nat → Nat) {M : Mem}  {r0 : Int64} (h : f_X12_digest M = some r0) : CMl l yX12_digest cX12_digest 7 ({ frames := 3, cells := 0, slots := 0, locals := 68 } : Room) K [.ref (a 0)] (wM K a M) (fun _ => wM K a M) r0 := by
  refine cs_l (by decide +kernel) (Nat.le_of_ble_eq_true rfl) ?_
  intro p e s m args below meth c A ls hF hr hk hnm hW hl
  have hx := hF.1
  have hb := hF.2.1
  have hl : lv_has ls 7 [(0, .ref (a 0))] := hl
  obtain ⟨H, hH⟩ : ∃ z, z = s.heap := ⟨_, rfl⟩
  rw [← hH] at hW ⊢
  have J6 : ∀ (n6 : Nat) (x1 : Int64) (x3 : Int32) (M : Mem) (H : Heap) (locs : List Loc) (ls : Array Slot), f_X12_digest_6 n6 x1 x3 M = some r0 → Wd K A s (wM K a M) H locs → lv_has ls 7 [(0, .ref (a 0)), (1, .long x1), (3, .int x3)] → W p l e ({ frames := 3, cells := 0, slots := 0, locals := 68 } : Room) s m args below meth c H locs 0 0 (EndL K A (fun _ => wM K a M) r0 below args s ({ frames := 3, cells := 0, slots := 0, locals := 68 } : Room)) (F0 m 6 ls []) := by
    intro n6
    induction n6 with
    | zero => intro x1 x3 M H locs ls h; exact absurd h (by simp [f_X12_digest_6])
    | succ n6 ih6 =>
      have J33 : ∀ (n33 : Nat) (x1 : Int64) (x3 : Int32) (M : Mem) (H : Heap) (locs : List Loc) (ls : Array Slot), f_X12_digest_33 n33 x1 x3 M = some r0 → Wd K A s (wM K a M) H locs → lv_has ls 7 [(0, .ref (a 0)), (1, .long x1), (3, .int x3)] → W p l e ({ frames := 3, cells := 0, slots := 0, locals := 68 } : Room) s m args below meth c H locs 0 0 (EndL K A (fun _ => wM K a M) r0 below args s ({ frames := 3, cells := 0, slots := 0, locals := 68 } : Room)) (F0 m 33 ls []) := by
        intro n33
        induction n33 with
        | zero => intro x1 x3 M H locs ls h; exact absurd h (by simp [f_X12_digest_33])
        | succ n33 ih33 =>
          have J44 : ∀ (n44 : Nat) (x1 : Int64) (x3 : Int32) (x4 : Int32) (M : Mem) (H : Heap) (locs : List Loc) (ls : Array Slot), f_X12_digest_44 (f_X12_digest_33 n33) n44 x1 x3 x4 M = some r0 → Wd K A s (wM K a M) H locs → lv_has ls 7 [(0, .ref (a 0)), (1, .long x1), (3, .int x3), (4, .int x4)] → W p l e ({ frames := 3, cells := 0, slots := 0, locals := 68 } : Room) s m args below meth c H locs 0 0 (EndL K A (fun _ => wM K a M) r0 below args s ({ frames := 3, cells := 0, slots := 0, locals := 68 } : Room)) (F0 m 44 ls []) := by
            intro n44
            induction n44 with
            | zero => intro x1 x3 x4 M H locs ls h; exact absurd h (by simp [f_X12_digest_44])
            | succ n44 ih44 =>
              intro x1 x3 x4 M H locs ls h hW hl
              rw [f_X12_digest_44] at h
              refine lv_iload hx hb dX12_digest_44 (lv_at hl 3 rfl) ?_
              refine lv_iconst (v := 5) hx hb dX12_digest_46 (by decide) ?_
              refine lv_icmp_ge (tgt := 71) hx hb dX12_digest_47 (by decide) (fun q4 => ?_) (fun q4 => ?_)
              · have h := ifp q4 h
                refine lv_iinc (v := (x3 + 1)) (lv' := [(3, .int (x3 + 1)), (0, .ref (a 0)), (1, .long x1), (4, .int x4)]) hx hb dX12_digest_71 hl (k := 2) rfl rfl (by decide) rfl (fun ls hl => ?_)
                refine lv_goto (tgt := 33) hx hb dX12_digest_74 (by decide) ?_
                exact ih33 x1 (x3 + 1) _ _ _ _ h hW (lv_sub hl [1, 2, 0] rfl)
              · have h := ifn q4 h
                refine lv_ldc2 hx hb hF.2.2.2.1 (hF.2.2.1 _ kl_X12_421) dX12_digest_50 ?_
                refine lv_lload_n hx hb dX12_digest_53 rfl (lv_at hl 1 rfl) ?_
                refine lv_lmul hx hb dX12_digest_54 ?_
                refine lv_aload_n hx hb dX12_digest_55 rfl (lv_at hl 0 rfl) ?_
                refine lv_iload_n hx hb dX12_digest_56 rfl (lv_at hl 2 rfl) ?_
                refine lv_iload hx hb dX12_digest_57 (lv_at hl 3 rfl) ?_
                obtain ⟨r5, hc7, h⟩ := bq_some h
                refine cV_i (ci := 12) (q0 := 0) (rest := [.long (31 * x1)]) hF hW mw_X12_423 (c_X12_node l K a hc7) ⟨Nat.le_of_ble_eq_true rfl, Nat.le_of_ble_eq_true rfl⟩ rfl rfl (pM_0 K a _) rfl hl.1 rfl (Nat.le_of_ble_eq_true rfl) dX12_digest_59 ⟨Nat.le_of_ble_eq_true rfl, Nat.le_of_ble_eq_true rfl⟩ (fun _ H locs hW => ?_)
                refine lv_i2l hx hb dX12_digest_62 rfl ?_
                refine lv_ladd hx hb dX12_digest_63 ?_
                refine lv_lstore_n (lv' := [(1, .long ((31 * x1) + r5.toInt64)), (0, .ref (a 0)), (3, .int x3), (4, .int x4)]) hx hb dX12_digest_64 rfl hl (by decide) rfl (fun ls hl => ?_)
                refine lv_iinc (v := (x4 + 1)) (lv' := [(4, .int (x4 + 1)), (1, .long ((31 * x1) + r5.toInt64)), (0, .ref (a 0)), (3, .int x3)]) hx hb dX12_digest_65 hl (k := 3) rfl rfl (by decide) rfl (fun ls hl => ?_)
                refine lv_goto (tgt := 44) hx hb dX12_digest_68 (by decide) ?_
                exact ih44 ((31 * x1) + r5.toInt64) x3 (x4 + 1) _ _ _ _ h hW (lv_sub hl [2, 1, 3, 0] rfl)
          have J79 : ∀ (n79 : Nat) (x1 : Int64) (x3 : Int32) (M : Mem) (H : Heap) (locs : List Loc) (ls : Array Slot), f_X12_digest_79 n79 x1 x3 M = some r0 → Wd K A s (wM K a M) H locs → lv_has ls 7 [(0, .ref (a 0)), (1, .long x1), (3, .int x3)] → W p l e ({ frames := 3, cells := 0, slots := 0, locals := 68 } : Room) s m args below meth c H locs 0 0 (EndL K A (fun _ => wM K a M) r0 below args s ({ frames := 3, cells := 0, slots := 0, locals := 68 } : Room)) (F0 m 79 ls []) := by
            intro n79
            induction n79 with
            | zero => intro x1 x3 M H locs ls h; exact absurd h (by simp [f_X12_digest_79])
            | succ n79 ih79 =>
              have J90 : ∀ (n90 : Nat) (x1 : Int64) (x3 : Int32) (x4 : Int32) (M : Mem) (H : Heap) (locs : List Loc) (ls : Array Slot), f_X12_digest_90 (f_X12_digest_79 n79) n90 x1 x3 x4 M = some r0 → Wd K A s (wM K a M) H locs → lv_has ls 7 [(0, .ref (a 0)), (1, .long x1), (3, .int x3), (4, .int x4)] → W p l e ({ frames := 3, cells := 0, slots := 0, locals := 68 } : Room) s m args below meth c H locs 0 0 (EndL K A (fun _ => wM K a M) r0 below args s ({ frames := 3, cells := 0, slots := 0, locals := 68 } : Room)) (F0 m 90 ls []) := by
                intro n90
                induction n90 with
                | zero => intro x1 x3 x4 M H locs ls h; exact absurd h (by simp [f_X12_digest_90])
                | succ n90 ih90 =>
                  have J114 : ∀ (n114 : Nat) (x1 : Int64) (x3 : Int32) (x4 : Int32) (x5 : Int32) (M : Mem) (H : Heap) (locs : List Loc) (ls : Array Slot), f_X12_digest_114 (f_X12_digest_90 (f_X12_digest_79 n79) n90) n114 x1 x3 x4 x5 M = some r0 → Wd K A s (wM K a M) H locs → lv_has ls 7 [(0, .ref (a 0)), (1, .long x1), (3, .int x3), (4, .int x4), (5, .int x5)] → W p l e ({ frames := 3, cells := 0, slots := 0, locals := 68 } : Room) s m args below meth c H locs 0 0 (EndL K A (fun _ => wM K a M) r0 below args s ({ frames := 3, cells := 0, slots := 0, locals := 68 } : Room)) (F0 m 114 ls []) := by
                    intro n114
                    induction n114 with
                    | zero => intro x1 x3 x4 x5 M H locs ls h; exact absurd h (by simp [f_X12_digest_114])
                    | succ n114 ih114 =>
                      intro x1 x3 x4 x5 M H locs ls h hW hl
                      rw [f_X12_digest_114] at h
                      refine lv_iload hx hb dX12_digest_114 (lv_at hl 4 rfl) ?_
                      refine lv_bipush (v := 7) hx hb dX12_digest_116 (by decide) ?_
                      refine lv_icmp_ge (tgt := 149) hx hb dX12_digest_118 (by decide) (fun q14 => ?_) (fun q14 => ?_)
                      · have h := ifp q14 h
                        refine lv_iinc (v := (x4 + 1)) (lv' := [(4, .int (x4 + 1)), (0, .ref (a 0)), (1, .long x1), (3, .int x3), (5, .int x5)]) hx hb dX12_digest_149 hl (k := 3) rfl rfl (by decide) rfl (fun ls hl => ?_)
                        refine lv_goto (tgt := 90) hx hb dX12_digest_152 (by decide) ?_
                        exact ih90 x1 x3 (x4 + 1) _ _ _ _ h hW (lv_sub hl [1, 2, 3, 0] rfl)
                      · have h := ifn q14 h
                        refine lv_ldc2 hx hb hF.2.2.2.1 (hF.2.2.1 _ kl_X12_421) dX12_digest_121 ?_
                        refine lv_lload_n hx hb dX12_digest_124 rfl (lv_at hl 1 rfl) ?_
                        refine lv_lmul hx hb dX12_digest_125 ?_
                        refine lv_aload_n hx hb dX12_digest_126 rfl (lv_at hl 0 rfl) ?_
                        refine g_X12_102 hF hW dX12_digest_127 ?_
                        refine lv_iload_n hx hb dX12_digest_130 rfl (lv_at hl 2 rfl) ?_
                        refine lv_iload hx hb dX12_digest_131 (lv_at hl 3 rfl) ?_
                        obtain ⟨r15, hc17, h⟩ := bq_some h
                        refine cS_i (rest := [.ref (a 31), .long (31 * x1)]) hF hW mw_X12_295 (c_X12_rowAt l K hc17) ⟨Nat.le_of_ble_eq_true rfl, Nat.le_of_ble_eq_true rfl⟩ rfl hl.1 rfl (Nat.le_of_ble_eq_true rfl) dX12_digest_133 ⟨Nat.le_of_ble_eq_true rfl, Nat.le_of_ble_eq_true rfl⟩ (fun _ H locs hW => ?_)
                        refine lv_iload hx hb dX12_digest_136 (lv_at hl 4 rfl) ?_
                        refine lv_iadd hx hb dX12_digest_138 ?_
                        obtain ⟨q18, h⟩ := ck_some h
                        refine w_ild hF hW (pM_31 K a _) q18 dX12_digest_139 ?_
                        refine lv_i2l hx hb dX12_digest_140 rfl ?_
                        refine lv_ladd hx hb dX12_digest_141 ?_
                        refine lv_lstore_n (lv' := [(1, .long ((31 * x1) + (M.1 31 (r15 + x5).toNatClampNeg).toInt64)), (0, .ref (a 0)), (3, .int x3), (4, .int x4), (5, .int x5)]) hx hb dX12_digest_142 rfl hl (by decide) rfl (fun ls hl => ?_)
                        refine lv_iinc (v := (x5 + 1)) (lv' := [(5, .int (x5 + 1)), (1, .long ((31 * x1) + (M.1 31 (r15 + x5).toNatClampNeg).toInt64)), (0, .ref (a 0)), (3, .int x3), (4, .int x4)]) hx hb dX12_digest_143 hl (k := 4) rfl rfl (by decide) rfl (fun ls hl => ?_)
                        refine lv_goto (tgt := 114) hx hb dX12_digest_146 (by decide) ?_
                        exact ih114 ((31 * x1) + (M.1 31 (r15 + x5).toNatClampNeg).toInt64) x3 x4 (x5 + 1) _ _ _ _ h hW (lv_sub hl [2, 1, 3, 4, 0] rfl)
                  intro x1 x3 x4 M H locs ls h hW hl
                  rw [f_X12_digest_90] at h
                  refine lv_iload hx hb dX12_digest_90 (lv_at hl 3 rfl) ?_
                  refine lv_aload_n hx hb dX12_digest_92 rfl (lv_at hl 0 rfl) ?_
                  refine g_X12_99 hF hW dX12_digest_93 ?_
                  refine lv_iload_n hx hb dX12_digest_96 rfl (lv_at hl 2 rfl) ?_
                  obtain ⟨q9, h⟩ := ck_some h
                  refine w_ild hF hW (pM_30 K a _) q9 dX12_digest_97 ?_
                  refine lv_icmp_ge (tgt := 155) hx hb dX12_digest_98 (by decide) (fun q10 => ?_) (fun q10 => ?_)
                  · have h := ifp q10 h
                    refine lv_iinc (v := (x3 + 1)) (lv' := [(3, .int (x3 + 1)), (0, .ref (a 0)), (1, .long x1), (4, .int x4)]) hx hb dX12_digest_155 hl (k := 2) rfl rfl (by decide) rfl (fun ls hl => ?_)
                    refine lv_goto (tgt := 79) hx hb dX12_digest_158 (by decide) ?_
                    exact ih79 x1 (x3 + 1) _ _ _ _ h hW (lv_sub hl [1, 2, 0] rfl)
                  · have h := ifn q10 h
                    refine lv_aload_n hx hb dX12_digest_101 rfl (lv_at hl 0 rfl) ?_
                    refine g_X12_26 hF hW dX12_digest_102 ?_
                    refine lv_iload_n hx hb dX12_digest_105 rfl (lv_at hl 2 rfl) ?_
                    obtain ⟨q11, h⟩ := ck_some h
                    refine w_ild hF hW (pM_6 K a _) q11 dX12_digest_106 ?_
                    refine lv_iconst (v := 3) hx hb dX12_digest_107 (by decide) ?_
                    refine lv_icmp_ne (tgt := 155) hx hb dX12_digest_108 (by decide) (fun q12 => ?_) (fun q12 => ?_)
                    · have h := ifn q12 h
                      refine lv_iinc (v := (x3 + 1)) (lv' := [(3, .int (x3 + 1)), (0, .ref (a 0)), (1, .long x1), (4, .int x4)]) hx hb dX12_digest_155 hl (k := 2) rfl rfl (by decide) rfl (fun ls hl => ?_)
                      refine lv_goto (tgt := 79) hx hb dX12_digest_158 (by decide) ?_
                      exact ih79 x1 (x3 + 1) _ _ _ _ h hW (lv_sub hl [1, 2, 0] rfl)
                    · have h := ifp q12 h
                      refine lv_iconst (v := 0) hx hb dX12_digest_111 (by decide) ?_
                      refine lv_istore (lv' := [(5, .int 0), (0, .ref (a 0)), (1, .long x1), (3, .int x3), (4, .int x4)]) hx hb dX12_digest_112 hl (by decide) rfl (fun ls hl => ?_)
                      exact J114 100000 x1 x3 x4 0 _ _ _ _ h hW (lv_sub hl [1, 2, 3, 4, 0] rfl)
              have J163 : ∀ (n163 : Nat) (x1 : Int64) (x3 : Int32) (M : Mem) (H : Heap) (locs : List Loc) (ls : Array Slot), f_X12_digest_163 n163 x1 x3 M = some r0 → Wd K A s (wM K a M) H locs → lv_has ls 7 [(0, .ref (a 0)), (1, .long x1), (3, .int x3)] → W p l e ({ frames := 3, cells := 0, slots := 0, locals := 68 } : Room) s m args below meth c H locs 0 0 (EndL K A (fun _ => wM K a M) r0 below args s ({ frames := 3, cells := 0, slots := 0, locals := 68 } : Room)) (F0 m 163 ls []) := by
                intro n163
                induction n163 with
                | zero => intro x1 x3 M H locs ls h; exact absurd h (by simp [f_X12_digest_163])
                | succ n163 ih163 =>
                  have J174 : ∀ (n174 : Nat) (x1 : Int64) (x3 : Int32) (x4 : Int32) (M : Mem) (H : Heap) (locs : List Loc) (ls : Array Slot), f_X12_digest_174 (f_X12_digest_163 n163) n174 x1 x3 x4 M = some r0 → Wd K A s (wM K a M) H locs → lv_has ls 7 [(0, .ref (a 0)), (1, .long x1), (3, .int x3), (4, .int x4)] → W p l e ({ frames := 3, cells := 0, slots := 0, locals := 68 } : Room) s m args below meth c H locs 0 0 (EndL K A (fun _ => wM K a M) r0 below args s ({ frames := 3, cells := 0, slots := 0, locals := 68 } : Room)) (F0 m 174 ls []) := by
                    intro n174
                    induction n174 with
                    | zero => intro x1 x3 x4 M H locs ls h; exact absurd h (by simp [f_X12_digest_174])
                    | succ n174 ih174 =>
                      have J223 : ∀ (n223 : Nat) (x1 : Int64) (x3 : Int32) (x4 : Int32) (x5 : Int32) (x6 : Int32) (M : Mem) (H : Heap) (locs : List Loc) (ls : Array Slot), f_X12_digest_223 (f_X12_digest_174 (f_X12_digest_163 n163) n174) n223 x1 x3 x4 x5 x6 M = some r0 → Wd K A s (wM K a M) H locs → lv_has ls 7 [(0, .ref (a 0)), (1, .long x1), (3, .int x3), (4, .int x4), (5, .int x5), (6, .int x6)] → W p l e ({ frames := 3, cells := 0, slots := 0, locals := 68 } : Room) s m args below meth c H locs 0 0 (EndL K A (fun _ => wM K a M) r0 below args s ({ frames := 3, cells := 0, slots := 0, locals := 68 } : Room)) (F0 m 223 ls []) := by
                        intro n223
                        induction n223 with
                        | zero => intro x1 x3 x4 x5 x6 M H locs ls h; exact absurd h (by simp [f_X12_digest_223])
                        | succ n223 ih223 =>
                          intro x1 x3 x4 x5 x6 M H locs ls h hW hl
                          rw [f_X12_digest_223] at h
                          refine lv_iload hx hb dX12_digest_223 (lv_at hl 5 rfl) ?_
                          refine lv_iload hx hb dX12_digest_225 (lv_at hl 4 rfl) ?_
                          refine lv_icmp_ge (tgt := 259) hx hb dX12_digest_227 (by decide) (fun q23 => ?_) (fun q23 => ?_)
                          · have h := ifp q23 h
                            refine lv_iinc (v := (x4 + 1)) (lv' := [(4, .int (x4 + 1)), (0, .ref (a 0)), (1, .long x1), (3, .int x3), (5, .int x5), (6, .int x6)]) hx hb dX12_digest_259 hl (k := 3) rfl rfl (by decide) rfl (fun ls hl => ?_)
                            refine lv_goto (tgt := 174) hx hb dX12_digest_262 (by decide) ?_
                            exact ih174 x1 x3 (x4 + 1) _ _ _ _ h hW (lv_sub hl [1, 2, 3, 0] rfl)
                          · have h := ifn q23 h
                            refine lv_ldc2 hx hb hF.2.2.2.1 (hF.2.2.1 _ kl_X12_421) dX12_digest_230 ?_
                            refine lv_lload_n hx hb dX12_digest_233 rfl (lv_at hl 1 rfl) ?_
                            refine lv_lmul hx hb dX12_digest_234 ?_
                            refine lv_aload_n hx hb dX12_digest_235 rfl (lv_at hl 0 rfl) ?_
                            refine g_X12_75 hF hW dX12_digest_236 ?_
                            refine lv_aload_n hx hb dX12_digest_239 rfl (lv_at hl 0 rfl) ?_
                            refine lv_iload_n hx hb dX12_digest_240 rfl (lv_at hl 2 rfl) ?_
                            refine lv_iload hx hb dX12_digest_241 (lv_at hl 3 rfl) ?_
                            refine lv_i2l hx hb dX12_digest_243 rfl ?_
                            refine lv_iload hx hb dX12_digest_244 (lv_at hl 5 rfl) ?_
                            refine lv_i2l hx hb dX12_digest_246 rfl ?_
                            obtain ⟨r24, hc26, h⟩ := bq_some h
                            refine cV_i (ci := 12) (q0 := 0) (rest := [.ref (a 22), .long (31 * x1)]) hF hW mw_X12_221 (c_X12_at l K a hc26) ⟨Nat.le_of_ble_eq_true rfl, Nat.le_of_ble_eq_true rfl⟩ rfl rfl (pM_0 K a _) rfl hl.1 rfl (Nat.le_of_ble_eq_true rfl) dX12_digest_247 ⟨Nat.le_of_ble_eq_true rfl, Nat.le_of_ble_eq_true rfl⟩ (fun _ H locs hW => ?_)
                            obtain ⟨q27, h⟩ := ck_some h
                            refine w_lld hF hW (pM_22 K a _) q27 dX12_digest_250 ?_
                            refine lv_ladd hx hb dX12_digest_251 ?_
                            refine lv_lstore_n (lv' := [(1, .long ((31 * x1) + (M.2.1 22 r24.toNatClampNeg))), (0, .ref (a 0)), (3, .int x3), (4, .int x4), (5, .int x5), (6, .int x6)]) hx hb dX12_digest_252 rfl hl (by decide) rfl (fun ls hl => ?_)
                            refine lv_iinc (v := (x6 + 1)) (lv' := [(6, .int (x6 + 1)), (1, .long ((31 * x1) + (M.2.1 22 r24.toNatClampNeg))), (0, .ref (a 0)), (3, .int x3), (4, .int x4), (5, .int x5)]) hx hb dX12_digest_253 hl (k := 5) rfl rfl (by decide) rfl (fun ls hl => ?_)
                            refine lv_goto (tgt := 223) hx hb dX12_digest_256 (by decide) ?_
                            exact ih223 ((31 * x1) + (M.2.1 22 r24.toNatClampNeg)) x3 x4 x5 (x6 + 1) _ _ _ _ h hW (lv_sub hl [2, 1, 3, 4, 5, 0] rfl)
                      intro x1 x3 x4 M H locs ls h hW hl
                      rw [f_X12_digest_174] at h
                      refine lv_iload hx hb dX12_digest_174 (lv_at hl 3 rfl) ?_
                      refine lv_aload_n hx hb dX12_digest_176 rfl (lv_at hl 0 rfl) ?_
                      refine g_X12_69 hF hW dX12_digest_177 ?_
                      refine lv_iload_n hx hb dX12_digest_180 rfl (lv_at hl 2 rfl) ?_
                      obtain ⟨q19, h⟩ := ck_some h
                      refine w_ild hF hW (pM_20 K a _) q19 dX12_digest_181 ?_
                      refine lv_icmp_ge (tgt := 265) hx hb dX12_digest_182 (by decide) (fun q20 => ?_) (fun q20 => ?_)
                      · have h := ifp q20 h
                        refine lv_iinc (v := (x3 + 1)) (lv' := [(3, .int (x3 + 1)), (0, .ref (a 0)), (1, .long x1), (4, .int x4)]) hx hb dX12_digest_265 hl (k := 2) rfl rfl (by decide) rfl (fun ls hl => ?_)
                        refine lv_goto (tgt := 163) hx hb dX12_digest_268 (by decide) ?_
                        exact ih163 x1 (x3 + 1) _ _ _ _ h hW (lv_sub hl [1, 2, 0] rfl)
                      · have h := ifn q20 h
                        refine lv_aload_n hx hb dX12_digest_185 rfl (lv_at hl 0 rfl) ?_
                        refine g_X12_72 hF hW dX12_digest_186 ?_
                        refine lv_bipush (v := 20) hx hb dX12_digest_189 (by decide) ?_
                        refine lv_iload_n hx hb dX12_digest_191 rfl (lv_at hl 2 rfl) ?_
                        refine lv_imul hx hb dX12_digest_192 ?_
                        refine lv_iload hx hb dX12_digest_193 (lv_at hl 3 rfl) ?_
                        refine lv_iadd hx hb dX12_digest_195 ?_
                        obtain ⟨q21, h⟩ := ck_some h
                        refine w_ild hF hW (pM_21 K a _) q21 dX12_digest_196 ?_
                        refine lv_istore (lv' := [(5, .int (M.1 21 ((20 * x3) + x4).toNatClampNeg)), (0, .ref (a 0)), (1, .long x1), (3, .int x3), (4, .int x4)]) hx hb dX12_digest_197 hl (by decide) rfl (fun ls hl => ?_)
                        refine lv_ldc2 hx hb hF.2.2.2.1 (hF.2.2.1 _ kl_X12_421) dX12_digest_199 ?_
                        refine lv_lload_n hx hb dX12_digest_202 rfl (lv_at hl 2 rfl) ?_
                        refine lv_lmul hx hb dX12_digest_203 ?_
                        refine lv_iload hx hb dX12_digest_204 (lv_at hl 0 rfl) ?_
                        refine lv_bipush (v := (-9)) hx hb dX12_digest_206 (by decide) ?_
                        refine lv_icmp_ne (tgt := 215) hx hb dX12_digest_208 (by decide) (fun q22 => ?_) (fun q22 => ?_)
                        · have h := ifn q22 h
                          refine lv_iload hx hb dX12_digest_215 (lv_at hl 0 rfl) ?_
                          refine lv_i2l hx hb dX12_digest_217 rfl ?_
                          refine lv_ladd hx hb dX12_digest_218 ?_
                          refine lv_lstore_n (lv' := [(1, .long ((31 * x1) + (M.1 21 ((20 * x3) + x4).toNatClampNeg).toInt64)), (5, .int (M.1 21 ((20 * x3) + x4).toNatClampNeg)), (0, .ref (a 0)), (3, .int x3), (4, .int x4)]) hx hb dX12_digest_219 rfl hl (by decide) rfl (fun ls hl => ?_)
                          refine lv_iconst (v := 0) hx hb dX12_digest_220 (by decide) ?_
                          refine lv_istore (lv' := [(6, .int 0), (1, .long ((31 * x1) + (M.1 21 ((20 * x3) + x4).toNatClampNeg).toInt64)), (5, .int (M.1 21 ((20 * x3) + x4).toNatClampNeg)), (0, .ref (a 0)), (3, .int x3), (4, .int x4)]) hx hb dX12_digest_221 hl (by decide) rfl (fun ls hl => ?_)
                          exact J223 100000 ((31 * x1) + (M.1 21 ((20 * x3) + x4).toNatClampNeg).toInt64) x3 x4 (M.1 21 ((20 * x3) + x4).toNatClampNeg) 0 _ _ _ _ h hW (lv_sub hl [3, 1, 4, 5, 2, 0] rfl)
                        · have h := ifp q22 h
                          refine lv_iconst (v := (-1)) hx hb dX12_digest_211 (by decide) ?_
                          refine lv_goto (tgt := 217) hx hb dX12_digest_212 (by decide) ?_
                          refine lv_i2l hx hb dX12_digest_217 rfl ?_
                          refine lv_ladd hx hb dX12_digest_218 ?_
                          refine lv_lstore_n (lv' := [(1, .long ((31 * x1) + (-1 : Int32).toInt64)), (5, .int (M.1 21 ((20 * x3) + x4).toNatClampNeg)), (0, .ref (a 0)), (3, .int x3), (4, .int x4)]) hx hb dX12_digest_219 rfl hl (by decide) rfl (fun ls hl => ?_)
                          refine lv_iconst (v := 0) hx hb dX12_digest_220 (by decide) ?_
                          refine lv_istore (lv' := [(6, .int 0), (1, .long ((31 * x1) + (-1 : Int32).toInt64)), (5, .int (M.1 21 ((20 * x3) + x4).toNatClampNeg)), (0, .ref (a 0)), (3, .int x3), (4, .int x4)]) hx hb dX12_digest_221 hl (by decide) rfl (fun ls hl => ?_)
                          exact J223 100000 ((31 * x1) + (-1 : Int32).toInt64) x3 x4 (M.1 21 ((20 * x3) + x4).toNatClampNeg) 0 _ _ _ _ h hW (lv_sub hl [3, 1, 4, 5, 2, 0] rfl)
                  intro x1 x3 M H locs ls h hW hl
                  rw [f_X12_digest_163] at h
                  refine lv_iload_n hx hb dX12_digest_163 rfl (lv_at hl 2 rfl) ?_
                  refine lv_aload_n hx hb dX12_digest_164 rfl (lv_at hl 0 rfl) ?_
                  refine g_X12_204 hF hW dX12_digest_165 ?_
                  refine lv_icmp_ge (tgt := 271) hx hb dX12_digest_168 (by decide) (fun q13 => ?_) (fun q13 => ?_)
                  · have h := ifp q13 h
                    refine lv_lload_n hx hb dX12_digest_271 rfl (lv_at hl 1 rfl) ?_
                    obtain rfl := Option.some.inj h
                    exact rt_l hF hr hk (fun _ => 0) hW rfl dX12_digest_272
                  · have h := ifn q13 h
                    refine lv_iconst (v := 0) hx hb dX12_digest_171 (by decide) ?_
                    refine lv_istore (lv' := [(4, .int 0), (0, .ref (a 0)), (1, .long x1), (3, .int x3)]) hx hb dX12_digest_172 hl (by decide) rfl (fun ls hl => ?_)
                    exact J174 100000 x1 x3 0 _ _ _ _ h hW (lv_sub hl [1, 2, 3, 0] rfl)
              intro x1 x3 M H locs ls h hW hl
              rw [f_X12_digest_79] at h
              refine lv_iload_n hx hb dX12_digest_79 rfl (lv_at hl 2 rfl) ?_
              refine lv_aload_n hx hb dX12_digest_80 rfl (lv_at hl 0 rfl) ?_
              refine g_X12_170 hF hW dX12_digest_81 ?_
              refine lv_icmp_ge (tgt := 161) hx hb dX12_digest_84 (by decide) (fun q8 => ?_) (fun q8 => ?_)
              · have h := ifp q8 h
                refine lv_iconst (v := 0) hx hb dX12_digest_161 (by decide) ?_
                refine lv_istore_n (lv' := [(3, .int 0), (0, .ref (a 0)), (1, .long x1)]) hx hb dX12_digest_162 rfl hl (by decide) rfl (fun ls hl => ?_)
                exact J163 100000 x1 0 _ _ _ _ h hW (lv_sub hl [1, 2, 0] rfl)
              · have h := ifn q8 h
                refine lv_iconst (v := 0) hx hb dX12_digest_87 (by decide) ?_
                refine lv_istore (lv' := [(4, .int 0), (0, .ref (a 0)), (1, .long x1), (3, .int x3)]) hx hb dX12_digest_88 hl (by decide) rfl (fun ls hl => ?_)
                exact J90 100000 x1 x3 0 _ _ _ _ h hW (lv_sub hl [1, 2, 3, 0] rfl)
          intro x1 x3 M H locs ls h hW hl
          rw [f_X12_digest_33] at h
          refine lv_iload_n hx hb dX12_digest_33 rfl (lv_at hl 2 rfl) ?_
          refine lv_aload_n hx hb dX12_digest_34 rfl (lv_at hl 0 rfl) ?_
          refine g_X12_170 hF hW dX12_digest_35 ?_
          refine lv_icmp_ge (tgt := 77) hx hb dX12_digest_38 (by decide) (fun q3 => ?_) (fun q3 => ?_)
          · have h := ifp q3 h
            refine lv_iconst (v := 0) hx hb dX12_digest_77 (by decide) ?_
            refine lv_istore_n (lv' := [(3, .int 0), (0, .ref (a 0)), (1, .long x1)]) hx hb dX12_digest_78 rfl hl (by decide) rfl (fun ls hl => ?_)
            exact J79 100000 x1 0 _ _ _ _ h hW (lv_sub hl [1, 2, 0] rfl)
          · have h := ifn q3 h
            refine lv_iconst (v := 0) hx hb dX12_digest_41 (by decide) ?_
            refine lv_istore (lv' := [(4, .int 0), (0, .ref (a 0)), (1, .long x1), (3, .int x3)]) hx hb dX12_digest_42 hl (by decide) rfl (fun ls hl => ?_)
            exact J44 100000 x1 x3 0 _ _ _ _ h hW (lv_sub hl [1, 2, 3, 0] rfl)
      intro x1 x3 M H locs ls h hW hl
      rw [f_X12_digest_6] at h
      refine lv_iload_n hx hb dX12_digest_6 rfl (lv_at hl 2 rfl) ?_
      refine lv_iconst (v := 3) hx hb dX12_digest_7 (by decide) ?_
      refine lv_icmp_ge (tgt := 31) hx hb dX12_digest_8 (by decide) (fun q1 => ?_) (fun q1 => ?_)
      · have h := ifp q1 h
        refine lv_iconst (v := 0) hx hb dX12_digest_31 (by decide) ?_
        refine lv_istore_n (lv' := [(3, .int 0), (0, .ref (a 0)), (1, .long x1)]) hx hb dX12_digest_32 rfl hl (by decide) rfl (fun ls hl => ?_)
        exact J33 100000 x1 0 _ _ _ _ h hW (lv_sub hl [1, 2, 0] rfl)
      · have h := ifn q1 h
        refine lv_ldc2 hx hb hF.2.2.2.1 (hF.2.2.1 _ kl_X12_421) dX12_digest_11 ?_
        refine lv_lload_n hx hb dX12_digest_14 rfl (lv_at hl 1 rfl) ?_
        refine lv_lmul hx hb dX12_digest_15 ?_
        refine lv_aload_n hx hb dX12_digest_16 rfl (lv_at hl 0 rfl) ?_
        refine g_X12_13 hF hW dX12_digest_17 ?_
        refine lv_iload_n hx hb dX12_digest_20 rfl (lv_at hl 2 rfl) ?_
        obtain ⟨q2, h⟩ := ck_some h
        refine w_ild hF hW (pM_2 K a _) q2 dX12_digest_21 ?_
        refine lv_i2l hx hb dX12_digest_22 rfl ?_
        refine lv_ladd hx hb dX12_digest_23 ?_
        refine lv_lstore_n (lv' := [(1, .long ((31 * x1) + (M.1 2 x3.toNatClampNeg).toInt64)), (0, .ref (a 0)), (3, .int x3)]) hx hb dX12_digest_24 rfl hl (by decide) rfl (fun ls hl => ?_)
        refine lv_iinc (v := (x3 + 1)) (lv' := [(3, .int (x3 + 1)), (1, .long ((31 * x1) + (M.1 2 x3.toNatClampNeg).toInt64)), (0, .ref (a 0))]) hx hb dX12_digest_25 hl (k := 2) rfl rfl (by decide) rfl (fun ls hl => ?_)
        refine lv_goto (tgt := 6) hx hb dX12_digest_28 (by decide) ?_
        exact ih6 ((31 * x1) + (M.1 2 x3.toNatClampNeg).toInt64) (x3 + 1) _ _ _ _ h hW (lv_sub hl [2, 1, 0] rfl)
  unfold f_X12_digest at h
  refine lv_ldc2 hx hb hF.2.2.2.1 (hF.2.2.1 _ kl_X12_419) dX12_digest_0 ?_
  refine lv_lstore_n (lv' := [(1, .long 17), (0, .ref (a 0))]) hx hb dX12_digest_3 rfl hl (by decide) rfl (fun ls hl => ?_)
  refine lv_iconst (v := 0) hx hb dX12_digest_4 (by decide) ?_
  refine lv_istore_n (lv' := [(3, .int 0), (1, .long 17), (0, .ref (a 0))]) hx hb dX12_digest_5 rfl hl (by decide) rfl (fun ls hl => ?_)
  exact J6 100000 17 0 _ _ _ _ h hW (lv_sub hl [2, 1, 0] rfl)
set_option maxRecDepth 100000 in
set_option maxHeartbeats 1000000 in
theorem c_X12_makeNode (l : Launch) (K : Kx) (a : Nat → Nat) {M M0 : Mem} {x1 : Int32} {x2 : Int32} {x3 : Int32} {x4 : Int32} {r0 : Int32} (h : f_X12_makeNode M x1 x2 x3 x4 = some (r0, M0)) : CMi l yX12_makeNode cX12_makeNode 6 (some .int) ({ frames := 3, cells := 0, slots := 0, locals := 70 } : Room) K [.ref (a 0), .int x1, .int x2, .int x3, .int x4] (wM K a M) (fun _ => wM K a M0) r0 := by
  refine cs_i (by decide +kernel) (Nat.le_of_ble_eq_true rfl) ?_
  intro p e s m args below meth c A ls hF hr hk hnm hW hl
  have hx := hF.1
  have hb := hF.2.1
  have hl : lv_has ls 6 [(0, .ref (a 0)), (1, .int x1), (2, .int x2), (3, .int x3), (4, .int x4)] := hl
  obtain ⟨H, hH⟩ : ∃ z, z = s.heap := ⟨_, rfl⟩
  rw [← hH] at hW ⊢
  have J58 : ∀ (n58 : Nat) (x5 : Int32) (M : Mem) (H : Heap) (locs : List Loc) (ls : Array Slot), f_X12_makeNode_58 n58 x5 M = some (r0, M0) → Wd K A s (wM K a M) H locs → lv_has ls 6 [(0, .ref (a 0)), (5, .int x5)] → W p l e ({ frames := 3, cells := 0, slots := 0, locals := 70 } : Room) s m args below meth c H locs 0 0 (EndI K A (fun _ => wM K a M0) r0 below args s ({ frames := 3, cells := 0, slots := 0, locals := 70 } : Room)) (F0 m 58 ls []) := by
    intro n58
    induction n58 with
    | zero => intro x5 M H locs ls h; exact absurd h (by simp [f_X12_makeNode_58])
    | succ n58 ih58 =>
      intro x5 M H locs ls h hW hl
      rw [f_X12_makeNode_58] at h
      refine lv_iload hx hb dX12_makeNode_58 (lv_at hl 1 rfl) ?_
      refine lv_iconst (v := 3) hx hb dX12_makeNode_60 (by decide) ?_
      refine lv_icmp_ge (tgt := 86) hx hb dX12_makeNode_61 (by decide) (fun q9 => ?_) (fun q9 => ?_)
      · have h := ifp q9 h
        refine lv_aload_n hx hb dX12_makeNode_86 rfl (lv_at hl 0 rfl) ?_
        refine lv_dup hx hb dX12_makeNode_87 rfl ?_
        refine g_X12_170 hF hW dX12_makeNode_88 ?_
        refine lv_iconst (v := 1) hx hb dX12_makeNode_91 (by decide) ?_
        refine lv_iadd hx hb dX12_makeNode_92 ?_
        refine s_X12_170 (x := ((M.1 102 0) + 1)) hF hW dX12_makeNode_93 (fun H locs hW => ?_)
        refine lv_aload_n hx hb dX12_makeNode_96 rfl (lv_at hl 0 rfl) ?_
        obtain ⟨M11, hc12, h⟩ := bm_some h
        refine cV_v (ci := 12) (q0 := 0) (rest := []) hF hW mw_X12_184 (c_X12_firstOrders l K a hc12) ⟨Nat.le_of_ble_eq_true rfl, Nat.le_of_ble_eq_true rfl⟩ rfl rfl (pM_0 K a _) rfl hl.1 rfl (Nat.le_of_ble_eq_true rfl) dX12_makeNode_97 ⟨Nat.le_of_ble_eq_true rfl, Nat.le_of_ble_eq_true rfl⟩ (fun _ H locs hW => ?_)
        refine lv_aload_n hx hb dX12_makeNode_100 rfl (lv_at hl 0 rfl) ?_
        refine g_X12_170 hF hW dX12_makeNode_101 ?_
        refine lv_iconst (v := 1) hx hb dX12_makeNode_104 (by decide) ?_
        refine lv_isub hx hb dX12_makeNode_105 ?_
        obtain ⟨rfl, rfl⟩ := Prod.mk.inj (Option.some.inj h)
        exact rt_i hF hr hk rfl (fun _ => 0) hW rfl dX12_makeNode_106
      · have h := ifn q9 h
        refine lv_aload_n hx hb dX12_makeNode_64 rfl (lv_at hl 0 rfl) ?_
        refine g_X12_41 hF hW dX12_makeNode_65 ?_
        refine lv_iconst (v := 3) hx hb dX12_makeNode_68 (by decide) ?_
        refine lv_aload_n hx hb dX12_makeNode_69 rfl (lv_at hl 0 rfl) ?_
        refine g_X12_170 hF hW dX12_makeNode_70 ?_
        refine lv_imul hx hb dX12_makeNode_73 ?_
        refine lv_iload hx hb dX12_makeNode_74 (lv_at hl 1 rfl) ?_
        refine lv_iadd hx hb dX12_makeNode_76 ?_
        refine lv_bipush (v := (-9)) hx hb dX12_makeNode_77 (by decide) ?_
        obtain ⟨q13, h⟩ := ck_some h
        refine w_ist hF hW (pM_11 K a _) q13 (uM_11 K a _ _ _) dX12_makeNode_79 (fun H locs hW => ?_)
        refine lv_iinc (v := (x5 + 1)) (lv' := [(5, .int (x5 + 1)), (0, .ref (a 0))]) hx hb dX12_makeNode_80 hl (k := 1) rfl rfl (by decide) rfl (fun ls hl => ?_)
        refine lv_goto (tgt := 58) hx hb dX12_makeNode_83 (by decide) ?_
        exact ih58 (x5 + 1) _ _ _ _ h hW (lv_sub hl [1, 0] rfl)
  unfold f_X12_makeNode at h
  refine lv_aload_n hx hb dX12_makeNode_0 rfl (lv_at hl 0 rfl) ?_
  refine g_X12_26 hF hW dX12_makeNode_1 ?_
  refine lv_aload_n hx hb dX12_makeNode_4 rfl (lv_at hl 0 rfl) ?_
  refine g_X12_170 hF hW dX12_makeNode_5 ?_
  refine lv_iload_n hx hb dX12_makeNode_8 rfl (lv_at hl 1 rfl) ?_
  obtain ⟨q1, h⟩ := ck_some h
  refine w_ist hF hW (pM_6 K a _) q1 (uM_6 K a _ _ _) dX12_makeNode_9 (fun H locs hW => ?_)
  refine lv_aload_n hx hb dX12_makeNode_10 rfl (lv_at hl 0 rfl) ?_
  refine g_X12_29 hF hW dX12_makeNode_11 ?_
  refine lv_aload_n hx hb dX12_makeNode_14 rfl (lv_at hl 0 rfl) ?_
  refine g_X12_170 hF hW dX12_makeNode_15 ?_
  refine lv_iload_n hx hb dX12_makeNode_18 rfl (lv_at hl 2 rfl) ?_
  obtain ⟨q2, h⟩ := ck_some h
  refine w_ist hF hW (pM_7 K a _) q2 (uM_7 K a _ _ _) dX12_makeNode_19 (fun H locs hW => ?_)
  refine lv_aload_n hx hb dX12_makeNode_20 rfl (lv_at hl 0 rfl) ?_
  refine g_X12_32 hF hW dX12_makeNode_21 ?_
  refine lv_aload_n hx hb dX12_makeNode_24 rfl (lv_at hl 0 rfl) ?_
  refine g_X12_170 hF hW dX12_makeNode_25 ?_
  refine lv_aload_n hx hb dX12_makeNode_28 rfl (lv_at hl 0 rfl) ?_
  refine lv_iload_n hx hb dX12_makeNode_29 rfl (lv_at hl 2 rfl) ?_
  obtain ⟨r3, hc5, h⟩ := bq_some h
  refine cV_i (ci := 12) (q0 := 0) (rest := [.int ((sI (sI M 6 (M.1 102 0).toNatClampNeg x1) 7 ((sI M 6 (M.1 102 0).toNatClampNeg x1).1 102 0).toNatClampNeg x2).1 102 0), .ref (a 8)]) hF hW mw_X12_180 (c_X12_depthIn l K a hc5) ⟨Nat.le_of_ble_eq_true rfl, Nat.le_of_ble_eq_true rfl⟩ rfl rfl (pM_0 K a _) rfl hl.1 rfl (Nat.le_of_ble_eq_true rfl) dX12_makeNode_30 ⟨Nat.le_of_ble_eq_true rfl, Nat.le_of_ble_eq_true rfl⟩ (fun _ H locs hW => ?_)
  obtain ⟨q6, h⟩ := ck_some h
  refine w_ist hF hW (pM_8 K a _) q6 (uM_8 K a _ _ _) dX12_makeNode_33 (fun H locs hW => ?_)
  refine lv_aload_n hx hb dX12_makeNode_34 rfl (lv_at hl 0 rfl) ?_
  refine g_X12_35 hF hW dX12_makeNode_35 ?_
  refine lv_aload_n hx hb dX12_makeNode_38 rfl (lv_at hl 0 rfl) ?_
  refine g_X12_170 hF hW dX12_makeNode_39 ?_
  refine lv_iload_n hx hb dX12_makeNode_42 rfl (lv_at hl 3 rfl) ?_
  obtain ⟨q7, h⟩ := ck_some h
  refine w_ist hF hW (pM_9 K a _) q7 (uM_9 K a _ _ _) dX12_makeNode_43 (fun H locs hW => ?_)
  refine lv_aload_n hx hb dX12_makeNode_44 rfl (lv_at hl 0 rfl) ?_
  refine g_X12_38 hF hW dX12_makeNode_45 ?_
  refine lv_aload_n hx hb dX12_makeNode_48 rfl (lv_at hl 0 rfl) ?_
  refine g_X12_170 hF hW dX12_makeNode_49 ?_
  refine lv_iload hx hb dX12_makeNode_52 (lv_at hl 4 rfl) ?_
  obtain ⟨q8, h⟩ := ck_some h
  refine w_ist hF hW (pM_10 K a _) q8 (uM_10 K a _ _ _) dX12_makeNode_54 (fun H locs hW => ?_)
  refine lv_iconst (v := 0) hx hb dX12_makeNode_55 (by decide) ?_
  refine lv_istore (lv' := [(5, .int 0), (0, .ref (a 0)), (1, .int x1), (2, .int x2), (3, .int x3), (4, .int x4)]) hx hb dX12_makeNode_56 hl (by decide) rfl (fun ls hl => ?_)
  exact J58 100000 0 _ _ _ _ h hW (lv_sub hl [1, 0] rfl)
set_option maxRecDepth 100000 in
set_option maxHeartbeats 1000000 in
theorem c_X12_loop (l : Launch) (K : Kx) (a : Nat → Nat) {M M0 : Mem} {x1 : Int32} {x2 : Int32} {x3 : Int32} {x4 : Bool} {r0 : Int32} (h : f_X12_loop M x1 x2 x3 x4 = some (r0, M0)) : CMi l yX12_loop cX12_loop 5 (some .int) ({ frames := 4, cells := 0, slots := 0, locals := 95 } : Room) K [.ref (a 0), .int x1, .int x2, .int x3, .int (bI x4)] (wM K a M) (fun _ => wM K a M0) r0 := by
  refine cs_i (by decide +kernel) (Nat.le_of_ble_eq_true rfl) ?_
  intro p e s m args below meth c A ls hF hr hk hnm hW hl
  have hx := hF.1
  have hb := hF.2.1
  have hl : lv_has ls 5 [(0, .ref (a 0)), (1, .int x1), (2, .int x2), (3, .int x3), (4, .int (bI x4))] := hl
  obtain ⟨H, hH⟩ : ∃ z, z = s.heap := ⟨_, rfl⟩
  rw [← hH] at hW ⊢
  have J86 : ∀ (x1 : Int32) (x2 : Int32) (x3 : Int32) (s1 : Bool) (M : Mem) (H : Heap) (locs : List Loc) (ls : Array Slot), f_X12_loop_86 x1 x2 x3 s1 M = some (r0, M0) → Wd K A s (wM K a M) H locs → lv_has ls 5 [(1, .int x1), (2, .int x2), (3, .int x3)] → W p l e ({ frames := 4, cells := 0, slots := 0, locals := 95 } : Room) s m args below meth c H locs 0 0 (EndI K A (fun _ => wM K a M0) r0 below args s ({ frames := 4, cells := 0, slots := 0, locals := 95 } : Room)) (F0 m 86 ls [.int (bI s1), .ref (a 0)]) := by
    intro x1 x2 x3 s1 M H locs ls h hW hl
    unfold f_X12_loop_86 at h
    refine lv_iload_n hx hb dX12_loop_86 rfl (lv_at hl 0 rfl) ?_
    refine lv_iload_n hx hb dX12_loop_87 rfl (lv_at hl 1 rfl) ?_
    refine lv_iload_n hx hb dX12_loop_88 rfl (lv_at hl 2 rfl) ?_
    obtain ⟨r33, M34, hc35, h⟩ := bd_some h
    refine cV_i (ci := 12) (q0 := 0) (rest := []) hF hW mw_X12_197 (c_X12_makeNode l K a hc35) ⟨Nat.le_of_ble_eq_true rfl, Nat.le_of_ble_eq_true rfl⟩ rfl rfl (pM_0 K a _) rfl hl.1 rfl (Nat.le_of_ble_eq_true rfl) dX12_loop_89 ⟨Nat.le_of_ble_eq_true rfl, Nat.le_of_ble_eq_true rfl⟩ (fun _ H locs hW => ?_)
    obtain ⟨rfl, rfl⟩ := Prod.mk.inj (Option.some.inj h)
    exact rt_i hF hr hk rfl (fun _ => 0) hW rfl dX12_loop_92
  unfold f_X12_loop at h
  refine lv_aload_n hx hb dX12_loop_0 rfl (lv_at hl 0 rfl) ?_
  refine lv_iload_n hx hb dX12_loop_1 rfl (lv_at hl 1 rfl) ?_
  obtain ⟨r1, hc3, h⟩ := bq_some h
  refine cV_i (ci := 12) (q0 := 0) (rest := []) hF hW mw_X12_187 (c_X12_mayHold l K a hc3) ⟨Nat.le_of_ble_eq_true rfl, Nat.le_of_ble_eq_true rfl⟩ rfl rfl (pM_0 K a _) rfl hl.1 rfl (Nat.le_of_ble_eq_true rfl) dX12_loop_2 ⟨Nat.le_of_ble_eq_true rfl, Nat.le_of_ble_eq_true rfl⟩ (fun _ H locs hW => ?_)
  refine lz_eq (tgt := 59) hx hb dX12_loop_5 (by decide) (fun q4 => ?_) (fun q4 => ?_)
  · have h := ifn q4 h
    refine lv_iconst (v := (-1)) hx hb dX12_loop_59 (by decide) ?_
    obtain ⟨rfl, rfl⟩ := Prod.mk.inj (Option.some.inj h)
    exact rt_i hF hr hk rfl (fun _ => 0) hW rfl dX12_loop_60
  · have h := ifp q4 h
    refine lv_aload_n hx hb dX12_loop_8 rfl (lv_at hl 0 rfl) ?_
    refine lv_iload_n hx hb dX12_loop_9 rfl (lv_at hl 2 rfl) ?_
    obtain ⟨r5, hc7, h⟩ := bq_some h
    refine cV_i (ci := 12) (q0 := 0) (rest := []) hF hW mw_X12_190 (c_X12_isSum l K a hc7) ⟨Nat.le_of_ble_eq_true rfl, Nat.le_of_ble_eq_true rfl⟩ rfl rfl (pM_0 K a _) rfl hl.1 rfl (Nat.le_of_ble_eq_true rfl) dX12_loop_10 ⟨Nat.le_of_ble_eq_true rfl, Nat.le_of_ble_eq_true rfl⟩ (fun _ H locs hW => ?_)
    refine lz_eq (tgt := 59) hx hb dX12_loop_13 (by decide) (fun q8 => ?_) (fun q8 => ?_)
    · have h := ifn q8 h
      refine lv_iconst (v := (-1)) hx hb dX12_loop_59 (by decide) ?_
      obtain ⟨rfl, rfl⟩ := Prod.mk.inj (Option.some.inj h)
      exact rt_i hF hr hk rfl (fun _ => 0) hW rfl dX12_loop_60
    · have h := ifp q8 h
      refine lv_aload_n hx hb dX12_loop_16 rfl (lv_at hl 0 rfl) ?_
      refine lv_iload_n hx hb dX12_loop_17 rfl (lv_at hl 3 rfl) ?_
      obtain ⟨r9, hc11, h⟩ := bq_some h
      refine cV_i (ci := 12) (q0 := 0) (rest := []) hF hW mw_X12_190 (c_X12_isSum l K a hc11) ⟨Nat.le_of_ble_eq_true rfl, Nat.le_of_ble_eq_true rfl⟩ rfl rfl (pM_0 K a _) rfl hl.1 rfl (Nat.le_of_ble_eq_true rfl) dX12_loop_18 ⟨Nat.le_of_ble_eq_true rfl, Nat.le_of_ble_eq_true rfl⟩ (fun _ H locs hW => ?_)
      refine lz_eq (tgt := 59) hx hb dX12_loop_21 (by decide) (fun q12 => ?_) (fun q12 => ?_)
      · have h := ifn q12 h
        refine lv_iconst (v := (-1)) hx hb dX12_loop_59 (by decide) ?_
        obtain ⟨rfl, rfl⟩ := Prod.mk.inj (Option.some.inj h)
        exact rt_i hF hr hk rfl (fun _ => 0) hW rfl dX12_loop_60
      · have h := ifp q12 h
        refine lv_aload_n hx hb dX12_loop_24 rfl (lv_at hl 0 rfl) ?_
        refine lv_iload_n hx hb dX12_loop_25 rfl (lv_at hl 1 rfl) ?_
        obtain ⟨r13, hc15, h⟩ := bq_some h
        refine cV_i (ci := 12) (q0 := 0) (rest := []) hF hW mw_X12_180 (c_X12_depthIn l K a hc15) ⟨Nat.le_of_ble_eq_true rfl, Nat.le_of_ble_eq_true rfl⟩ rfl rfl (pM_0 K a _) rfl hl.1 rfl (Nat.le_of_ble_eq_true rfl) dX12_loop_26 ⟨Nat.le_of_ble_eq_true rfl, Nat.le_of_ble_eq_true rfl⟩ (fun _ H locs hW => ?_)
        refine lv_iconst (v := 3) hx hb dX12_loop_29 (by decide) ?_
        refine lv_icmp_gt (tgt := 59) hx hb dX12_loop_30 (by decide) (fun q16 => ?_) (fun q16 => ?_)
        · have h := ifp q16 h
          refine lv_iconst (v := (-1)) hx hb dX12_loop_59 (by decide) ?_
          obtain ⟨rfl, rfl⟩ := Prod.mk.inj (Option.some.inj h)
          exact rt_i hF hr hk rfl (fun _ => 0) hW rfl dX12_loop_60
        · have h := ifn q16 h
          refine lv_aload_n hx hb dX12_loop_33 rfl (lv_at hl 0 rfl) ?_
          refine lv_iload_n hx hb dX12_loop_34 rfl (lv_at hl 2 rfl) ?_
          refine lv_aload_n hx hb dX12_loop_35 rfl (lv_at hl 0 rfl) ?_
          refine lv_iload_n hx hb dX12_loop_36 rfl (lv_at hl 1 rfl) ?_
          obtain ⟨r17, hc19, h⟩ := bq_some h
          refine cV_i (ci := 12) (q0 := 0) (rest := [.int x2, .ref (a 0)]) hF hW mw_X12_180 (c_X12_depthIn l K a hc19) ⟨Nat.le_of_ble_eq_true rfl, Nat.le_of_ble_eq_true rfl⟩ rfl rfl (pM_0 K a _) rfl hl.1 rfl (Nat.le_of_ble_eq_true rfl) dX12_loop_37 ⟨Nat.le_of_ble_eq_true rfl, Nat.le_of_ble_eq_true rfl⟩ (fun _ H locs hW => ?_)
          obtain ⟨r20, hc22, h⟩ := bq_some h
          refine cV_i (ci := 12) (q0 := 0) (rest := []) hF hW mw_X12_193 (c_X12_hasLetters l K a hc22) ⟨Nat.le_of_ble_eq_true rfl, Nat.le_of_ble_eq_true rfl⟩ rfl rfl (pM_0 K a _) rfl hl.1 rfl (Nat.le_of_ble_eq_true rfl) dX12_loop_40 ⟨Nat.le_of_ble_eq_true rfl, Nat.le_of_ble_eq_true rfl⟩ (fun _ H locs hW => ?_)
          refine lz_eq (tgt := 59) hx hb dX12_loop_43 (by decide) (fun q23 => ?_) (fun q23 => ?_)
          · have h := ifn q23 h
            refine lv_iconst (v := (-1)) hx hb dX12_loop_59 (by decide) ?_
            obtain ⟨rfl, rfl⟩ := Prod.mk.inj (Option.some.inj h)
            exact rt_i hF hr hk rfl (fun _ => 0) hW rfl dX12_loop_60
          · have h := ifp q23 h
            refine lv_aload_n hx hb dX12_loop_46 rfl (lv_at hl 0 rfl) ?_
            refine lv_iload_n hx hb dX12_loop_47 rfl (lv_at hl 3 rfl) ?_
            refine lv_aload_n hx hb dX12_loop_48 rfl (lv_at hl 0 rfl) ?_
            refine lv_iload_n hx hb dX12_loop_49 rfl (lv_at hl 1 rfl) ?_
            obtain ⟨r24, hc26, h⟩ := bq_some h
            refine cV_i (ci := 12) (q0 := 0) (rest := [.int x3, .ref (a 0)]) hF hW mw_X12_180 (c_X12_depthIn l K a hc26) ⟨Nat.le_of_ble_eq_true rfl, Nat.le_of_ble_eq_true rfl⟩ rfl rfl (pM_0 K a _) rfl hl.1 rfl (Nat.le_of_ble_eq_true rfl) dX12_loop_50 ⟨Nat.le_of_ble_eq_true rfl, Nat.le_of_ble_eq_true rfl⟩ (fun _ H locs hW => ?_)
            obtain ⟨r27, hc29, h⟩ := bq_some h
            refine cV_i (ci := 12) (q0 := 0) (rest := []) hF hW mw_X12_193 (c_X12_hasLetters l K a hc29) ⟨Nat.le_of_ble_eq_true rfl, Nat.le_of_ble_eq_true rfl⟩ rfl rfl (pM_0 K a _) rfl hl.1 rfl (Nat.le_of_ble_eq_true rfl) dX12_loop_53 ⟨Nat.le_of_ble_eq_true rfl, Nat.le_of_ble_eq_true rfl⟩ (fun _ H locs hW => ?_)
            refine lz_ne (tgt := 61) hx hb dX12_loop_56 (by decide) (fun q30 => ?_) (fun q30 => ?_)
            · have h := ifp q30 h
              refine lv_aload_n hx hb dX12_loop_61 rfl (lv_at hl 0 rfl) ?_
              refine g_X12_170 hF hW dX12_loop_62 ?_
              refine lv_bipush (v := 40) hx hb dX12_loop_65 (by decide) ?_
              refine lv_icmp_ne (tgt := 75) hx hb dX12_loop_67 (by decide) (fun q31 => ?_) (fun q31 => ?_)
              · have h := ifn q31 h
                refine lv_aload_n hx hb dX12_loop_75 rfl (lv_at hl 0 rfl) ?_
                refine lv_iload hx hb dX12_loop_76 (lv_at hl 4 rfl) ?_
                refine lz_eq (tgt := 85) hx hb dX12_loop_78 (by decide) (fun q32 => ?_) (fun q32 => ?_)
                · have h := ifn q32 h
                  refine lv_iconst (v := 0) hx hb dX12_loop_85 (by decide) ?_
                  exact J86 x1 x2 x3 false _ _ _ _ h hW (lv_sub hl [1, 2, 3] rfl)
                · have h := ifp q32 h
                  refine lv_iconst (v := 1) hx hb dX12_loop_81 (by decide) ?_
                  refine lv_goto (tgt := 86) hx hb dX12_loop_82 (by decide) ?_
                  exact J86 x1 x2 x3 true _ _ _ _ h hW (lv_sub hl [1, 2, 3] rfl)
              · have h := ifp q31 h
                refine lv_bipush (v := (-2)) hx hb dX12_loop_70 (by decide) ?_
                refine lv_goto (tgt := 92) hx hb dX12_loop_72 (by decide) ?_
                obtain ⟨rfl, rfl⟩ := Prod.mk.inj (Option.some.inj h)
                exact rt_i hF hr hk rfl (fun _ => 0) hW rfl dX12_loop_92
            · have h := ifn q30 h
              refine lv_iconst (v := (-1)) hx hb dX12_loop_59 (by decide) ?_
              obtain ⟨rfl, rfl⟩ := Prod.mk.inj (Option.some.inj h)
              exact rt_i hF hr hk rfl (fun _ => 0) hW rfl dX12_loop_60
set_option maxRecDepth 100000 in
set_option maxHeartbeats 1000000 in
theorem c_X12_test (l : Launch) (K : Kx) (a : Nat → Nat) {M M0 : Mem} {x1 : Int32} {x2 : Int32} {x3 : Int32} {r0 : Int32} (h : f_X12_test M x1 x2 x3 = some (r0, M0)) : CMi l yX12_test cX12_test 4 (some .int) ({ frames := 4, cells := 0, slots := 0, locals := 95 } : Room) K [.ref (a 0), .int x1, .int x2, .int x3] (wM K a M) (fun _ => wM K a M0) r0 := by
  refine cs_i (by decide +kernel) (Nat.le_of_ble_eq_true rfl) ?_
  intro p e s m args below meth c A ls hF hr hk hnm hW hl
  have hx := hF.1
  have hb := hF.2.1
  have hl : lv_has ls 4 [(0, .ref (a 0)), (1, .int x1), (2, .int x2), (3, .int x3)] := hl
  obtain ⟨H, hH⟩ : ∃ z, z = s.heap := ⟨_, rfl⟩
  rw [← hH] at hW ⊢
  unfold f_X12_test at h
  refine lv_aload_n hx hb dX12_test_0 rfl (lv_at hl 0 rfl) ?_
  refine lv_iload_n hx hb dX12_test_1 rfl (lv_at hl 1 rfl) ?_
  obtain ⟨r1, hc3, h⟩ := bq_some h
  refine cV_i (ci := 12) (q0 := 0) (rest := []) hF hW mw_X12_187 (c_X12_mayHold l K a hc3) ⟨Nat.le_of_ble_eq_true rfl, Nat.le_of_ble_eq_true rfl⟩ rfl rfl (pM_0 K a _) rfl hl.1 rfl (Nat.le_of_ble_eq_true rfl) dX12_test_2 ⟨Nat.le_of_ble_eq_true rfl, Nat.le_of_ble_eq_true rfl⟩ (fun _ H locs hW => ?_)
  refine lz_eq (tgt := 41) hx hb dX12_test_5 (by decide) (fun q4 => ?_) (fun q4 => ?_)
  · have h := ifn q4 h
    refine lv_iconst (v := (-1)) hx hb dX12_test_41 (by decide) ?_
    obtain ⟨rfl, rfl⟩ := Prod.mk.inj (Option.some.inj h)
    exact rt_i hF hr hk rfl (fun _ => 0) hW rfl dX12_test_42
  · have h := ifp q4 h
    refine lv_aload_n hx hb dX12_test_8 rfl (lv_at hl 0 rfl) ?_
    refine lv_iload_n hx hb dX12_test_9 rfl (lv_at hl 2 rfl) ?_
    obtain ⟨r5, hc7, h⟩ := bq_some h
    refine cV_i (ci := 12) (q0 := 0) (rest := []) hF hW mw_X12_190 (c_X12_isSum l K a hc7) ⟨Nat.le_of_ble_eq_true rfl, Nat.le_of_ble_eq_true rfl⟩ rfl rfl (pM_0 K a _) rfl hl.1 rfl (Nat.le_of_ble_eq_true rfl) dX12_test_10 ⟨Nat.le_of_ble_eq_true rfl, Nat.le_of_ble_eq_true rfl⟩ (fun _ H locs hW => ?_)
    refine lz_eq (tgt := 41) hx hb dX12_test_13 (by decide) (fun q8 => ?_) (fun q8 => ?_)
    · have h := ifn q8 h
      refine lv_iconst (v := (-1)) hx hb dX12_test_41 (by decide) ?_
      obtain ⟨rfl, rfl⟩ := Prod.mk.inj (Option.some.inj h)
      exact rt_i hF hr hk rfl (fun _ => 0) hW rfl dX12_test_42
    · have h := ifp q8 h
      refine lv_iload_n hx hb dX12_test_16 rfl (lv_at hl 3 rfl) ?_
      refine lv_i2l hx hb dX12_test_17 rfl ?_
      refine lv_lconst (v := 0) hx hb dX12_test_18 (by decide) ?_
      refine lv_ldc2 hx hb hF.2.2.2.1 (hF.2.2.1 _ kl_X12_168) dX12_test_19 ?_
      obtain ⟨r9, hc11, h⟩ := bq_some h
      refine cS_i (rest := []) hF hW mw_X12_154 (c_X12_in l K hc11) ⟨Nat.le_of_ble_eq_true rfl, Nat.le_of_ble_eq_true rfl⟩ rfl hl.1 rfl (Nat.le_of_ble_eq_true rfl) dX12_test_22 ⟨Nat.le_of_ble_eq_true rfl, Nat.le_of_ble_eq_true rfl⟩ (fun _ H locs hW => ?_)
      refine lz_eq (tgt := 41) hx hb dX12_test_25 (by decide) (fun q12 => ?_) (fun q12 => ?_)
      · have h := ifn q12 h
        refine lv_iconst (v := (-1)) hx hb dX12_test_41 (by decide) ?_
        obtain ⟨rfl, rfl⟩ := Prod.mk.inj (Option.some.inj h)
        exact rt_i hF hr hk rfl (fun _ => 0) hW rfl dX12_test_42
      · have h := ifp q12 h
        refine lv_aload_n hx hb dX12_test_28 rfl (lv_at hl 0 rfl) ?_
        refine lv_iload_n hx hb dX12_test_29 rfl (lv_at hl 2 rfl) ?_
        refine lv_aload_n hx hb dX12_test_30 rfl (lv_at hl 0 rfl) ?_
        refine lv_iload_n hx hb dX12_test_31 rfl (lv_at hl 1 rfl) ?_
        obtain ⟨r13, hc15, h⟩ := bq_some h
        refine cV_i (ci := 12) (q0 := 0) (rest := [.int x2, .ref (a 0)]) hF hW mw_X12_180 (c_X12_depthIn l K a hc15) ⟨Nat.le_of_ble_eq_true rfl, Nat.le_of_ble_eq_true rfl⟩ rfl rfl (pM_0 K a _) rfl hl.1 rfl (Nat.le_of_ble_eq_true rfl) dX12_test_32 ⟨Nat.le_of_ble_eq_true rfl, Nat.le_of_ble_eq_true rfl⟩ (fun _ H locs hW => ?_)
        obtain ⟨r16, hc18, h⟩ := bq_some h
        refine cV_i (ci := 12) (q0 := 0) (rest := []) hF hW mw_X12_193 (c_X12_hasLetters l K a hc18) ⟨Nat.le_of_ble_eq_true rfl, Nat.le_of_ble_eq_true rfl⟩ rfl rfl (pM_0 K a _) rfl hl.1 rfl (Nat.le_of_ble_eq_true rfl) dX12_test_35 ⟨Nat.le_of_ble_eq_true rfl, Nat.le_of_ble_eq_true rfl⟩ (fun _ H locs hW => ?_)
        refine lz_ne (tgt := 43) hx hb dX12_test_38 (by decide) (fun q19 => ?_) (fun q19 => ?_)
        · have h := ifp q19 h
          refine lv_aload_n hx hb dX12_test_43 rfl (lv_at hl 0 rfl) ?_
          refine g_X12_170 hF hW dX12_test_44 ?_
          refine lv_bipush (v := 40) hx hb dX12_test_47 (by decide) ?_
          refine lv_icmp_ne (tgt := 57) hx hb dX12_test_49 (by decide) (fun q20 => ?_) (fun q20 => ?_)
          · have h := ifn q20 h
            refine lv_aload_n hx hb dX12_test_57 rfl (lv_at hl 0 rfl) ?_
            refine lv_iconst (v := 2) hx hb dX12_test_58 (by decide) ?_
            refine lv_iload_n hx hb dX12_test_59 rfl (lv_at hl 1 rfl) ?_
            refine lv_iload_n hx hb dX12_test_60 rfl (lv_at hl 2 rfl) ?_
            refine lv_iload_n hx hb dX12_test_61 rfl (lv_at hl 3 rfl) ?_
            obtain ⟨r21, M22, hc23, h⟩ := bd_some h
            refine cV_i (ci := 12) (q0 := 0) (rest := []) hF hW mw_X12_197 (c_X12_makeNode l K a hc23) ⟨Nat.le_of_ble_eq_true rfl, Nat.le_of_ble_eq_true rfl⟩ rfl rfl (pM_0 K a _) rfl hl.1 rfl (Nat.le_of_ble_eq_true rfl) dX12_test_62 ⟨Nat.le_of_ble_eq_true rfl, Nat.le_of_ble_eq_true rfl⟩ (fun _ H locs hW => ?_)
            obtain ⟨rfl, rfl⟩ := Prod.mk.inj (Option.some.inj h)
            exact rt_i hF hr hk rfl (fun _ => 0) hW rfl dX12_test_65
          · have h := ifp q20 h
            refine lv_bipush (v := (-2)) hx hb dX12_test_52 (by decide) ?_
            refine lv_goto (tgt := 65) hx hb dX12_test_54 (by decide) ?_
            obtain ⟨rfl, rfl⟩ := Prod.mk.inj (Option.some.inj h)
            exact rt_i hF hr hk rfl (fun _ => 0) hW rfl dX12_test_65
        · have h := ifn q19 h
          refine lv_iconst (v := (-1)) hx hb dX12_test_41 (by decide) ?_
          obtain ⟨rfl, rfl⟩ := Prod.mk.inj (Option.some.inj h)
          exact rt_i hF hr hk rfl (fun _ => 0) hW rfl dX12_test_42
set_option maxRecDepth 100000 in
set_option maxHeartbeats 1000000 in
theorem c_X12_act (l : Launch) (K : Kx) (a : Nat → Nat) {M M0 : Mem} {x1 : Int32} {x2 : Int32} {x3 : Int32} {r0 : Int32} (h : f_X12_act M x1 x2 x3 = some (r0, M0)) : CMi l yX12_act cX12_act 4 (some .int) ({ frames := 4, cells := 0, slots := 0, locals := 95 } : Room) K [.ref (a 0), .int x1, .int x2, .int x3] (wM K a M) (fun _ => wM K a M0) r0 := by
  refine cs_i (by decide +kernel) (Nat.le_of_ble_eq_true rfl) ?_
  intro p e s m args below meth c A ls hF hr hk hnm hW hl
  have hx := hF.1
  have hb := hF.2.1
  have hl : lv_has ls 4 [(0, .ref (a 0)), (1, .int x1), (2, .int x2), (3, .int x3)] := hl
  obtain ⟨H, hH⟩ : ∃ z, z = s.heap := ⟨_, rfl⟩
  rw [← hH] at hW ⊢
  unfold f_X12_act at h
  refine lv_aload_n hx hb dX12_act_0 rfl (lv_at hl 0 rfl) ?_
  refine lv_iload_n hx hb dX12_act_1 rfl (lv_at hl 1 rfl) ?_
  obtain ⟨r1, hc3, h⟩ := bq_some h
  refine cV_i (ci := 12) (q0 := 0) (rest := []) hF hW mw_X12_187 (c_X12_mayHold l K a hc3) ⟨Nat.le_of_ble_eq_true rfl, Nat.le_of_ble_eq_true rfl⟩ rfl rfl (pM_0 K a _) rfl hl.1 rfl (Nat.le_of_ble_eq_true rfl) dX12_act_2 ⟨Nat.le_of_ble_eq_true rfl, Nat.le_of_ble_eq_true rfl⟩ (fun _ H locs hW => ?_)
  refine lz_eq (tgt := 20) hx hb dX12_act_5 (by decide) (fun q4 => ?_) (fun q4 => ?_)
  · have h := ifn q4 h
    refine lv_iconst (v := (-1)) hx hb dX12_act_20 (by decide) ?_
    obtain ⟨rfl, rfl⟩ := Prod.mk.inj (Option.some.inj h)
    exact rt_i hF hr hk rfl (fun _ => 0) hW rfl dX12_act_21
  · have h := ifp q4 h
    refine lv_iload_n hx hb dX12_act_8 rfl (lv_at hl 2 rfl) ?_
    refine lv_i2l hx hb dX12_act_9 rfl ?_
    refine lv_lconst (v := 0) hx hb dX12_act_10 (by decide) ?_
    refine lv_ldc2 hx hb hF.2.2.2.1 (hF.2.2.1 _ kl_X12_152) dX12_act_11 ?_
    obtain ⟨r5, hc7, h⟩ := bq_some h
    refine cS_i (rest := []) hF hW mw_X12_154 (c_X12_in l K hc7) ⟨Nat.le_of_ble_eq_true rfl, Nat.le_of_ble_eq_true rfl⟩ rfl hl.1 rfl (Nat.le_of_ble_eq_true rfl) dX12_act_14 ⟨Nat.le_of_ble_eq_true rfl, Nat.le_of_ble_eq_true rfl⟩ (fun _ H locs hW => ?_)
    refine lz_ne (tgt := 22) hx hb dX12_act_17 (by decide) (fun q8 => ?_) (fun q8 => ?_)
    · have h := ifp q8 h
      refine lv_aload_n hx hb dX12_act_22 rfl (lv_at hl 0 rfl) ?_
      refine g_X12_170 hF hW dX12_act_23 ?_
      refine lv_bipush (v := 40) hx hb dX12_act_26 (by decide) ?_
      refine lv_icmp_eq (tgt := 40) hx hb dX12_act_28 (by decide) (fun q9 => ?_) (fun q9 => ?_)
      · have h := ifp q9 h
        refine lv_bipush (v := (-2)) hx hb dX12_act_40 (by decide) ?_
        obtain ⟨rfl, rfl⟩ := Prod.mk.inj (Option.some.inj h)
        exact rt_i hF hr hk rfl (fun _ => 0) hW rfl dX12_act_42
      · have h := ifn q9 h
        refine lv_aload_n hx hb dX12_act_31 rfl (lv_at hl 0 rfl) ?_
        refine g_X12_201 hF hW dX12_act_32 ?_
        refine lv_bipush (v := 12) hx hb dX12_act_35 (by decide) ?_
        refine lv_icmp_ne (tgt := 43) hx hb dX12_act_37 (by decide) (fun q10 => ?_) (fun q10 => ?_)
        · have h := ifn q10 h
          refine lv_aload_n hx hb dX12_act_43 rfl (lv_at hl 0 rfl) ?_
          refine lv_dup hx hb dX12_act_44 rfl ?_
          refine g_X12_201 hF hW dX12_act_45 ?_
          refine lv_iconst (v := 1) hx hb dX12_act_48 (by decide) ?_
          refine lv_iadd hx hb dX12_act_49 ?_
          refine s_X12_201 (x := ((M.1 103 0) + 1)) hF hW dX12_act_50 (fun H locs hW => ?_)
          refine lv_aload_n hx hb dX12_act_53 rfl (lv_at hl 0 rfl) ?_
          refine lv_iconst (v := 3) hx hb dX12_act_54 (by decide) ?_
          refine lv_iload_n hx hb dX12_act_55 rfl (lv_at hl 1 rfl) ?_
          refine lv_iload_n hx hb dX12_act_56 rfl (lv_at hl 2 rfl) ?_
          refine lv_iload_n hx hb dX12_act_57 rfl (lv_at hl 3 rfl) ?_
          obtain ⟨r11, M12, hc13, h⟩ := bd_some h
          refine cV_i (ci := 12) (q0 := 0) (rest := []) hF hW mw_X12_197 (c_X12_makeNode l K a hc13) ⟨Nat.le_of_ble_eq_true rfl, Nat.le_of_ble_eq_true rfl⟩ rfl rfl (pM_0 K a _) rfl hl.1 rfl (Nat.le_of_ble_eq_true rfl) dX12_act_58 ⟨Nat.le_of_ble_eq_true rfl, Nat.le_of_ble_eq_true rfl⟩ (fun _ H locs hW => ?_)
          obtain ⟨rfl, rfl⟩ := Prod.mk.inj (Option.some.inj h)
          exact rt_i hF hr hk rfl (fun _ => 0) hW rfl dX12_act_61
        · have h := ifp q10 h
          refine lv_bipush (v := (-2)) hx hb dX12_act_40 (by decide) ?_
          obtain ⟨rfl, rfl⟩ := Prod.mk.inj (Option.some.inj h)
          exact rt_i hF hr hk rfl (fun _ => 0) hW rfl dX12_act_42
    · have h := ifn q8 h
      refine lv_iconst (v := (-1)) hx hb dX12_act_20 (by decide) ?_
      obtain ⟨rfl, rfl⟩ := Prod.mk.inj (Option.some.inj h)
      exact rt_i hF hr hk rfl (fun _ => 0) hW rfl dX12_act_21
set_option maxRecDepth 100000 in
set_option maxHeartbeats 1000000 in
theorem c_X12_walk (l : Launch) (K : Kx) (a : Nat → Nat) {M M0 : Mem}  {r0 : Bool} (h : f_X12_walk M = some (r0, M0)) : CMi l yX12_walk cX12_walk 5 (some .boolean) ({ frames := 1, cells := 0, slots := 0, locals := 24 } : Room) K [.ref (a 0)] (wM K a M) (fun _ => wM K a M0) (bI r0) := by
  refine cs_i (by decide +kernel) (Nat.le_of_ble_eq_true rfl) ?_
  intro p e s m args below meth c A ls hF hr hk hnm hW hl
  have hx := hF.1
  have hb := hF.2.1
  have hl : lv_has ls 5 [(0, .ref (a 0))] := hl
  obtain ⟨H, hH⟩ : ∃ z, z = s.heap := ⟨_, rfl⟩
  rw [← hH] at hW ⊢
  have J17 : ∀ (n17 : Nat) (x1 : Int32) (M : Mem) (H : Heap) (locs : List Loc) (ls : Array Slot), f_X12_walk_17 n17 x1 M = some (r0, M0) → Wd K A s (wM K a M) H locs → lv_has ls 5 [(0, .ref (a 0)), (1, .int x1)] → W p l e ({ frames := 1, cells := 0, slots := 0, locals := 24 } : Room) s m args below meth c H locs 0 0 (EndI K A (fun _ => wM K a M0) (bI r0) below args s ({ frames := 1, cells := 0, slots := 0, locals := 24 } : Room)) (F0 m 17 ls []) := by
    intro n17
    induction n17 with
    | zero => intro x1 M H locs ls h; exact absurd h (by simp [f_X12_walk_17])
    | succ n17 ih17 =>
      have J58 : ∀ (n58 : Nat) (x1 : Int32) (M : Mem) (H : Heap) (locs : List Loc) (ls : Array Slot), f_X12_walk_58 n58 x1 M = some (r0, M0) → Wd K A s (wM K a M) H locs → lv_has ls 5 [(0, .ref (a 0)), (1, .int x1)] → W p l e ({ frames := 1, cells := 0, slots := 0, locals := 24 } : Room) s m args below meth c H locs 0 0 (EndI K A (fun _ => wM K a M0) (bI r0) below args s ({ frames := 1, cells := 0, slots := 0, locals := 24 } : Room)) (F0 m 58 ls []) := by
        intro n58
        induction n58 with
        | zero => intro x1 M H locs ls h; exact absurd h (by simp [f_X12_walk_58])
        | succ n58 ih58 =>
          have J174 : ∀ (x1 : Int32) (x2 : Int32) (M : Mem) (H : Heap) (locs : List Loc) (ls : Array Slot), f_X12_walk_174 (f_X12_walk_58 n58) x1 x2 M = some (r0, M0) → Wd K A s (wM K a M) H locs → lv_has ls 5 [(0, .ref (a 0)), (1, .int x1), (2, .int x2)] → W p l e ({ frames := 1, cells := 0, slots := 0, locals := 24 } : Room) s m args below meth c H locs 0 0 (EndI K A (fun _ => wM K a M0) (bI r0) below args s ({ frames := 1, cells := 0, slots := 0, locals := 24 } : Room)) (F0 m 174 ls []) := by
            intro x1 x2 M H locs ls h hW hl
            unfold f_X12_walk_174 at h
            refine lv_iinc (v := (x1 + 1)) (lv' := [(1, .int (x1 + 1)), (0, .ref (a 0)), (2, .int x2)]) hx hb dX12_walk_174 hl (k := 1) rfl rfl (by decide) rfl (fun ls hl => ?_)
            refine lv_aload_n hx hb dX12_walk_177 rfl (lv_at hl 1 rfl) ?_
            refine g_X12_84 hF hW dX12_walk_178 ?_
            refine lv_iload_n hx hb dX12_walk_181 rfl (lv_at hl 0 rfl) ?_
            refine lv_iload_n hx hb dX12_walk_182 rfl (lv_at hl 2 rfl) ?_
            obtain ⟨q73, h⟩ := ck_some h
            refine w_ist hF hW (pM_25 K a _) q73 (uM_25 K a _ _ _) dX12_walk_183 (fun H locs hW => ?_)
            refine lv_aload_n hx hb dX12_walk_184 rfl (lv_at hl 1 rfl) ?_
            refine g_X12_87 hF hW dX12_walk_185 ?_
            refine lv_iload_n hx hb dX12_walk_188 rfl (lv_at hl 0 rfl) ?_
            refine lv_aload_n hx hb dX12_walk_189 rfl (lv_at hl 1 rfl) ?_
            refine lv_iload_n hx hb dX12_walk_190 rfl (lv_at hl 2 rfl) ?_
            refine lv_iconst (v := 0) hx hb dX12_walk_191 (by decide) ?_
            obtain ⟨r74, hc76, h⟩ := bq_some h
            refine cV_i (ci := 12) (q0 := 0) (rest := [.int (x1 + 1), .ref (a 26)]) hF hW mw_X12_242 (c_X12_nextIn l K a hc76) ⟨Nat.le_of_ble_eq_true rfl, Nat.le_of_ble_eq_true rfl⟩ rfl rfl (pM_0 K a _) rfl hl.1 rfl (Nat.le_of_ble_eq_true rfl) dX12_walk_192 ⟨Nat.le_of_ble_eq_true rfl, Nat.le_of_ble_eq_true rfl⟩ (fun _ H locs hW => ?_)
            obtain ⟨q77, h⟩ := ck_some h
            refine w_ist hF hW (pM_26 K a _) q77 (uM_26 K a _ _ _) dX12_walk_195 (fun H locs hW => ?_)
            refine lv_goto (tgt := 372) hx hb dX12_walk_196 (by decide) ?_
            refine lv_goto (tgt := 58) hx hb dX12_walk_372 (by decide) ?_
            exact ih58 (x1 + 1) _ _ _ _ h hW (lv_sub hl [1, 0] rfl)
          have J276 : ∀ (x1 : Int32) (x3 : Int64) (s1 : Int32) (s2 : Int32) (M : Mem) (H : Heap) (locs : List Loc) (ls : Array Slot), f_X12_walk_276 (f_X12_walk_58 n58) x1 x3 s1 s2 M = some (r0, M0) → Wd K A s (wM K a M) H locs → lv_has ls 5 [(0, .ref (a 0)), (1, .int x1), (3, .long x3)] → W p l e ({ frames := 1, cells := 0, slots := 0, locals := 24 } : Room) s m args below meth c H locs 0 0 (EndI K A (fun _ => wM K a M0) (bI r0) below args s ({ frames := 1, cells := 0, slots := 0, locals := 24 } : Room)) (F0 m 276 ls [.int s2, .int s1, .ref (a 26)]) := by
            intro x1 x3 s1 s2 M H locs ls h hW hl
            unfold f_X12_walk_276 at h
            obtain ⟨q78, h⟩ := ck_some h
            refine w_ist hF hW (pM_26 K a _) q78 (uM_26 K a _ _ _) dX12_walk_276 (fun H locs hW => ?_)
            refine lv_lload_n hx hb dX12_walk_277 rfl (lv_at hl 2 rfl) ?_
            refine lv_aload_n hx hb dX12_walk_278 rfl (lv_at hl 0 rfl) ?_
            refine g_X12_90 hF hW dX12_walk_279 ?_
            refine lv_iload_n hx hb dX12_walk_282 rfl (lv_at hl 1 rfl) ?_
            obtain ⟨q79, h⟩ := ck_some h
            refine w_lld hF hW (pM_27 K a _) q79 dX12_walk_283 ?_
            refine ll_le (tgt := 296) hx hb dX12_walk_284 dX12_walk_285 (by decide) (fun q80 => ?_) (fun q80 => ?_)
            · have h := ifp q80 h
              refine lv_goto (tgt := 372) hx hb dX12_walk_296 (by decide) ?_
              refine lv_goto (tgt := 58) hx hb dX12_walk_372 (by decide) ?_
              exact ih58 x1 _ _ _ _ h hW (lv_sub hl [0, 1] rfl)
            · have h := ifn q80 h
              refine lv_aload_n hx hb dX12_walk_288 rfl (lv_at hl 0 rfl) ?_
              refine lv_iload_n hx hb dX12_walk_289 rfl (lv_at hl 1 rfl) ?_
              obtain ⟨M82, hc83, h⟩ := bm_some h
              refine cV_v (ci := 12) (q0 := 0) (rest := []) hF hW mw_X12_257 (c_X12_closeLoop l K a hc83) ⟨Nat.le_of_ble_eq_true rfl, Nat.le_of_ble_eq_true rfl⟩ rfl rfl (pM_0 K a _) rfl hl.1 rfl (Nat.le_of_ble_eq_true rfl) dX12_walk_290 ⟨Nat.le_of_ble_eq_true rfl, Nat.le_of_ble_eq_true rfl⟩ (fun _ H locs hW => ?_)
              refine lv_iinc (v := (x1 + (-1))) (lv' := [(1, .int (x1 + (-1))), (0, .ref (a 0)), (3, .long x3)]) hx hb dX12_walk_293 hl (k := 1) rfl rfl (by decide) rfl (fun ls hl => ?_)
              refine lv_goto (tgt := 372) hx hb dX12_walk_296 (by decide) ?_
              refine lv_goto (tgt := 58) hx hb dX12_walk_372 (by decide) ?_
              exact ih58 (x1 + (-1)) _ _ _ _ h hW (lv_sub hl [1, 0] rfl)
          intro x1 M H locs ls h hW hl
          rw [f_X12_walk_58] at h
          refine lv_iload_n hx hb dX12_walk_58 rfl (lv_at hl 1 rfl) ?_
          refine lv_if_lt (tgt := 375) hx hb dX12_walk_59 (by decide) (fun q8 => ?_) (fun q8 => ?_)
          · have h := ifp q8 h
            refine lv_aload_n hx hb dX12_walk_375 rfl (lv_at hl 0 rfl) ?_
            refine g_X12_235 hF hW dX12_walk_376 ?_
            obtain ⟨rfl, rfl⟩ := Prod.mk.inj (Option.some.inj h)
            exact rt_i hF hr hk (bI_n _) (fun _ => 0) hW rfl dX12_walk_379
          · have h := ifn q8 h
            refine lv_aload_n hx hb dX12_walk_62 rfl (lv_at hl 0 rfl) ?_
            refine g_X12_235 hF hW dX12_walk_63 ?_
            refine lz_ne (tgt := 375) hx hb dX12_walk_66 (by decide) (fun q9 => ?_) (fun q9 => ?_)
            · have h := ifp q9 h
              refine lv_aload_n hx hb dX12_walk_375 rfl (lv_at hl 0 rfl) ?_
              refine g_X12_235 hF hW dX12_walk_376 ?_
              obtain ⟨rfl, rfl⟩ := Prod.mk.inj (Option.some.inj h)
              exact rt_i hF hr hk (bI_n _) (fun _ => 0) hW rfl dX12_walk_379
            · have h := ifn q9 h
              refine lv_aload_n hx hb dX12_walk_69 rfl (lv_at hl 0 rfl) ?_
              refine g_X12_87 hF hW dX12_walk_70 ?_
              refine lv_iload_n hx hb dX12_walk_73 rfl (lv_at hl 1 rfl) ?_
              obtain ⟨q10, h⟩ := ck_some h
              refine w_ild hF hW (pM_26 K a _) q10 dX12_walk_74 ?_
              refine lv_istore_n (lv' := [(2, .int (M.1 26 x1.toNatClampNeg)), (0, .ref (a 0)), (1, .int x1)]) hx hb dX12_walk_75 rfl hl (by decide) rfl (fun ls hl => ?_)
              refine lv_iload_n hx hb dX12_walk_76 rfl (lv_at hl 0 rfl) ?_
              refine lv_aload_n hx hb dX12_walk_77 rfl (lv_at hl 1 rfl) ?_
              refine g_X12_170 hF hW dX12_walk_78 ?_
              refine lv_icmp_ge (tgt := 299) hx hb dX12_walk_81 (by decide) (fun q11 => ?_) (fun q11 => ?_)
              · have h := ifp q11 h
                refine lv_aload_n hx hb dX12_walk_299 rfl (lv_at hl 1 rfl) ?_
                refine g_X12_84 hF hW dX12_walk_300 ?_
                refine lv_iload_n hx hb dX12_walk_303 rfl (lv_at hl 2 rfl) ?_
                obtain ⟨q12, h⟩ := ck_some h
                refine w_ild hF hW (pM_25 K a _) q12 dX12_walk_304 ?_
                refine lv_istore_n (lv' := [(3, .int (M.1 25 x1.toNatClampNeg)), (2, .int (M.1 26 x1.toNatClampNeg)), (0, .ref (a 0)), (1, .int x1)]) hx hb dX12_walk_305 rfl hl (by decide) rfl (fun ls hl => ?_)
                refine lv_iload_n hx hb dX12_walk_306 rfl (lv_at hl 0 rfl) ?_
                refine lv_bipush (v := (-9)) hx hb dX12_walk_307 (by decide) ?_
                refine lv_icmp_eq (tgt := 369) hx hb dX12_walk_309 (by decide) (fun q13 => ?_) (fun q13 => ?_)
                · have h := ifp q13 h
                  refine lv_iinc (v := (x1 + (-1))) (lv' := [(1, .int (x1 + (-1))), (3, .int (M.1 25 x1.toNatClampNeg)), (2, .int (M.1 26 x1.toNatClampNeg)), (0, .ref (a 0))]) hx hb dX12_walk_369 hl (k := 3) rfl rfl (by decide) rfl (fun ls hl => ?_)
                  refine lv_goto (tgt := 58) hx hb dX12_walk_372 (by decide) ?_
                  exact ih58 (x1 + (-1)) _ _ _ _ h hW (lv_sub hl [3, 0] rfl)
                · have h := ifn q13 h
                  refine lv_aload_n hx hb dX12_walk_312 rfl (lv_at hl 2 rfl) ?_
                  refine lv_iload_n hx hb dX12_walk_313 rfl (lv_at hl 0 rfl) ?_
                  obtain ⟨r14, hc16, h⟩ := bq_some h
                  refine cV_i (ci := 12) (q0 := 0) (rest := []) hF hW mw_X12_173 (c_X12_isLoop l K a hc16) ⟨Nat.le_of_ble_eq_true rfl, Nat.le_of_ble_eq_true rfl⟩ rfl rfl (pM_0 K a _) rfl hl.1 rfl (Nat.le_of_ble_eq_true rfl) dX12_walk_314 ⟨Nat.le_of_ble_eq_true rfl, Nat.le_of_ble_eq_true rfl⟩ (fun _ H locs hW => ?_)
                  refine lz_eq (tgt := 369) hx hb dX12_walk_317 (by decide) (fun q17 => ?_) (fun q17 => ?_)
                  · have h := ifn q17 h
                    refine lv_iinc (v := (x1 + (-1))) (lv' := [(1, .int (x1 + (-1))), (3, .int (M.1 25 x1.toNatClampNeg)), (2, .int (M.1 26 x1.toNatClampNeg)), (0, .ref (a 0))]) hx hb dX12_walk_369 hl (k := 3) rfl rfl (by decide) rfl (fun ls hl => ?_)
                    refine lv_goto (tgt := 58) hx hb dX12_walk_372 (by decide) ?_
                    exact ih58 (x1 + (-1)) _ _ _ _ h hW (lv_sub hl [3, 0] rfl)
                  · have h := ifp q17 h
                    refine lv_aload_n hx hb dX12_walk_320 rfl (lv_at hl 2 rfl) ?_
                    refine g_X12_22 hF hW dX12_walk_321 ?_
                    refine lv_aload_n hx hb dX12_walk_324 rfl (lv_at hl 2 rfl) ?_
                    refine g_X12_32 hF hW dX12_walk_325 ?_
                    refine lv_iload_n hx hb dX12_walk_328 rfl (lv_at hl 0 rfl) ?_
                    obtain ⟨q18, h⟩ := ck_some h
                    refine w_ild hF hW (pM_8 K a _) q18 dX12_walk_329 ?_
                    refine lv_dup2_11 hx hb dX12_walk_330 rfl rfl ?_
                    obtain ⟨q19, h⟩ := ck_some h
                    refine w_lld hF hW (pM_5 K a _) q19 dX12_walk_331 ?_
                    refine lv_lconst (v := 1) hx hb dX12_walk_332 (by decide) ?_
                    refine lv_ladd hx hb dX12_walk_333 ?_
                    obtain ⟨q20, h⟩ := ck_some h
                    refine w_lst hF hW (pM_5 K a _) q20 (uM_5 K a _ _ _) dX12_walk_334 (fun H locs hW => ?_)
                    refine lv_aload_n hx hb dX12_walk_335 rfl (lv_at hl 2 rfl) ?_
                    refine lv_iload_n hx hb dX12_walk_336 rfl (lv_at hl 3 rfl) ?_
                    obtain ⟨r21, M22, hc23, h⟩ := bd_some h
                    refine cV_i (ci := 12) (q0 := 0) (rest := []) hF hW mw_X12_254 (c_X12_turns l K a hc23) ⟨Nat.le_of_ble_eq_true rfl, Nat.le_of_ble_eq_true rfl⟩ rfl rfl (pM_0 K a _) rfl hl.1 rfl (Nat.le_of_ble_eq_true rfl) dX12_walk_337 ⟨Nat.le_of_ble_eq_true rfl, Nat.le_of_ble_eq_true rfl⟩ (fun _ H locs hW => ?_)
                    refine lz_eq (tgt := 358) hx hb dX12_walk_340 (by decide) (fun q24 => ?_) (fun q24 => ?_)
                    · have h := ifn q24 h
                      refine lv_aload_n hx hb dX12_walk_358 rfl (lv_at hl 2 rfl) ?_
                      refine lv_iload_n hx hb dX12_walk_359 rfl (lv_at hl 3 rfl) ?_
                      obtain ⟨M26, hc27, h⟩ := bm_some h
                      refine cV_v (ci := 12) (q0 := 0) (rest := []) hF hW mw_X12_257 (c_X12_closeLoop l K a hc27) ⟨Nat.le_of_ble_eq_true rfl, Nat.le_of_ble_eq_true rfl⟩ rfl rfl (pM_0 K a _) rfl hl.1 rfl (Nat.le_of_ble_eq_true rfl) dX12_walk_360 ⟨Nat.le_of_ble_eq_true rfl, Nat.le_of_ble_eq_true rfl⟩ (fun _ H locs hW => ?_)
                      refine lv_iinc (v := (x1 + (-1))) (lv' := [(1, .int (x1 + (-1))), (3, .int (M.1 25 x1.toNatClampNeg)), (2, .int (M.1 26 x1.toNatClampNeg)), (0, .ref (a 0))]) hx hb dX12_walk_363 hl (k := 3) rfl rfl (by decide) rfl (fun ls hl => ?_)
                      refine lv_goto (tgt := 372) hx hb dX12_walk_366 (by decide) ?_
                      refine lv_goto (tgt := 58) hx hb dX12_walk_372 (by decide) ?_
                      exact ih58 (x1 + (-1)) _ _ _ _ h hW (lv_sub hl [3, 0] rfl)
                    · have h := ifp q24 h
                      refine lv_aload_n hx hb dX12_walk_343 rfl (lv_at hl 2 rfl) ?_
                      refine g_X12_87 hF hW dX12_walk_344 ?_
                      refine lv_iload_n hx hb dX12_walk_347 rfl (lv_at hl 3 rfl) ?_
                      refine lv_aload_n hx hb dX12_walk_348 rfl (lv_at hl 2 rfl) ?_
                      refine lv_iload_n hx hb dX12_walk_349 rfl (lv_at hl 0 rfl) ?_
                      refine lv_iconst (v := 0) hx hb dX12_walk_350 (by decide) ?_
                      obtain ⟨r28, hc30, h⟩ := bq_some h
                      refine cV_i (ci := 12) (q0 := 0) (rest := [.int x1, .ref (a 26)]) hF hW mw_X12_242 (c_X12_nextIn l K a hc30) ⟨Nat.le_of_ble_eq_true rfl, Nat.le_of_ble_eq_true rfl⟩ rfl rfl (pM_0 K a _) rfl hl.1 rfl (Nat.le_of_ble_eq_true rfl) dX12_walk_351 ⟨Nat.le_of_ble_eq_true rfl, Nat.le_of_ble_eq_true rfl⟩ (fun _ H locs hW => ?_)
                      obtain ⟨q31, h⟩ := ck_some h
                      refine w_ist hF hW (pM_26 K a _) q31 (uM_26 K a _ _ _) dX12_walk_354 (fun H locs hW => ?_)
                      refine lv_goto (tgt := 372) hx hb dX12_walk_355 (by decide) ?_
                      refine lv_goto (tgt := 58) hx hb dX12_walk_372 (by decide) ?_
                      exact ih58 x1 _ _ _ _ h hW (lv_sub hl [2, 3] rfl)
              · have h := ifn q11 h
                refine lv_aload_n hx hb dX12_walk_84 rfl (lv_at hl 1 rfl) ?_
                refine g_X12_87 hF hW dX12_walk_85 ?_
                refine lv_iload_n hx hb dX12_walk_88 rfl (lv_at hl 2 rfl) ?_
                refine lv_aload_n hx hb dX12_walk_89 rfl (lv_at hl 1 rfl) ?_
                refine lv_aload_n hx hb dX12_walk_90 rfl (lv_at hl 1 rfl) ?_
                refine g_X12_84 hF hW dX12_walk_91 ?_
                refine lv_iload_n hx hb dX12_walk_94 rfl (lv_at hl 2 rfl) ?_
                obtain ⟨q32, h⟩ := ck_some h
                refine w_ild hF hW (pM_25 K a _) q32 dX12_walk_95 ?_
                refine lv_iload_n hx hb dX12_walk_96 rfl (lv_at hl 0 rfl) ?_
                refine lv_iconst (v := 1) hx hb dX12_walk_97 (by decide) ?_
                refine lv_iadd hx hb dX12_walk_98 ?_
                obtain ⟨r33, hc35, h⟩ := bq_some h
                refine cV_i (ci := 12) (q0 := 0) (rest := [.int x1, .ref (a 26)]) hF hW mw_X12_242 (c_X12_nextIn l K a hc35) ⟨Nat.le_of_ble_eq_true rfl, Nat.le_of_ble_eq_true rfl⟩ rfl rfl (pM_0 K a _) rfl hl.1 rfl (Nat.le_of_ble_eq_true rfl) dX12_walk_99 ⟨Nat.le_of_ble_eq_true rfl, Nat.le_of_ble_eq_true rfl⟩ (fun _ H locs hW => ?_)
                obtain ⟨q36, h⟩ := ck_some h
                refine w_ist hF hW (pM_26 K a _) q36 (uM_26 K a _ _ _) dX12_walk_102 (fun H locs hW => ?_)
                refine lv_aload_n hx hb dX12_walk_103 rfl (lv_at hl 1 rfl) ?_
                refine g_X12_26 hF hW dX12_walk_104 ?_
                refine lv_iload_n hx hb dX12_walk_107 rfl (lv_at hl 0 rfl) ?_
                obtain ⟨q37, h⟩ := ck_some h
                refine w_ild hF hW (pM_6 K a _) q37 dX12_walk_108 ?_
                refine lv_iconst (v := 3) hx hb dX12_walk_109 (by decide) ?_
                refine lv_icmp_ne (tgt := 121) hx hb dX12_walk_110 (by decide) (fun q38 => ?_) (fun q38 => ?_)
                · have h := ifn q38 h
                  refine lv_aload_n hx hb dX12_walk_121 rfl (lv_at hl 1 rfl) ?_
                  refine g_X12_26 hF hW dX12_walk_122 ?_
                  refine lv_iload_n hx hb dX12_walk_125 rfl (lv_at hl 0 rfl) ?_
                  obtain ⟨q39, h⟩ := ck_some h
                  refine w_ild hF hW (pM_6 K a _) q39 dX12_walk_126 ?_
                  refine lv_iconst (v := 2) hx hb dX12_walk_127 (by decide) ?_
                  refine lv_icmp_ne (tgt := 199) hx hb dX12_walk_128 (by decide) (fun q40 => ?_) (fun q40 => ?_)
                  · have h := ifn q40 h
                    refine lv_aload_n hx hb dX12_walk_199 rfl (lv_at hl 1 rfl) ?_
                    refine lv_aload_n hx hb dX12_walk_200 rfl (lv_at hl 1 rfl) ?_
                    refine g_X12_35 hF hW dX12_walk_201 ?_
                    refine lv_iload_n hx hb dX12_walk_204 rfl (lv_at hl 0 rfl) ?_
                    obtain ⟨q41, h⟩ := ck_some h
                    refine w_ild hF hW (pM_9 K a _) q41 dX12_walk_205 ?_
                    obtain ⟨r42, hc44, h⟩ := bq_some h
                    refine cV_l (ci := 12) (q0 := 0) (rest := []) hF hW mw_X12_250 (c_X12_valueOf l K a hc44) ⟨Nat.le_of_ble_eq_true rfl, Nat.le_of_ble_eq_true rfl⟩ rfl rfl (pM_0 K a _) rfl hl.1 rfl (Nat.le_of_ble_eq_true rfl) dX12_walk_206 ⟨Nat.le_of_ble_eq_true rfl, Nat.le_of_ble_eq_true rfl⟩ (fun _ H locs hW => ?_)
                    refine lv_lstore_n (lv' := [(3, .long r42), (2, .int (M.1 26 x1.toNatClampNeg)), (0, .ref (a 0)), (1, .int x1)]) hx hb dX12_walk_209 rfl hl (by decide) rfl (fun ls hl => ?_)
                    refine lv_aload_n hx hb dX12_walk_210 rfl (lv_at hl 2 rfl) ?_
                    refine g_X12_90 hF hW dX12_walk_211 ?_
                    refine lv_iload_n hx hb dX12_walk_214 rfl (lv_at hl 3 rfl) ?_
                    refine lv_iconst (v := 1) hx hb dX12_walk_215 (by decide) ?_
                    refine lv_iadd hx hb dX12_walk_216 ?_
                    refine lv_aload_n hx hb dX12_walk_217 rfl (lv_at hl 2 rfl) ?_
                    refine lv_aload_n hx hb dX12_walk_218 rfl (lv_at hl 2 rfl) ?_
                    refine g_X12_38 hF hW dX12_walk_219 ?_
                    refine lv_iload_n hx hb dX12_walk_222 rfl (lv_at hl 1 rfl) ?_
                    obtain ⟨q45, h⟩ := ck_some h
                    refine w_ild hF hW (pM_10 K a _) q45 dX12_walk_223 ?_
                    obtain ⟨r46, hc48, h⟩ := bq_some h
                    refine cV_l (ci := 12) (q0 := 0) (rest := [.int (x1 + 1), .ref (a 27)]) hF hW mw_X12_250 (c_X12_valueOf l K a hc48) ⟨Nat.le_of_ble_eq_true rfl, Nat.le_of_ble_eq_true rfl⟩ rfl rfl (pM_0 K a _) rfl hl.1 rfl (Nat.le_of_ble_eq_true rfl) dX12_walk_224 ⟨Nat.le_of_ble_eq_true rfl, Nat.le_of_ble_eq_true rfl⟩ (fun _ H locs hW => ?_)
                    obtain ⟨q49, h⟩ := ck_some h
                    refine w_lst hF hW (pM_27 K a _) q49 (uM_27 K a _ _ _) dX12_walk_227 (fun H locs hW => ?_)
                    refine lv_iinc (v := (x1 + 1)) (lv' := [(1, .int (x1 + 1)), (3, .long r42), (2, .int (M.1 26 x1.toNatClampNeg)), (0, .ref (a 0))]) hx hb dX12_walk_228 hl (k := 3) rfl rfl (by decide) rfl (fun ls hl => ?_)
                    refine lv_aload_n hx hb dX12_walk_231 rfl (lv_at hl 3 rfl) ?_
                    refine g_X12_84 hF hW dX12_walk_232 ?_
                    refine lv_iload_n hx hb dX12_walk_235 rfl (lv_at hl 0 rfl) ?_
                    refine lv_iload_n hx hb dX12_walk_236 rfl (lv_at hl 2 rfl) ?_
                    obtain ⟨q50, h⟩ := ck_some h
                    refine w_ist hF hW (pM_25 K a _) q50 (uM_25 K a _ _ _) dX12_walk_237 (fun H locs hW => ?_)
                    refine lv_aload_n hx hb dX12_walk_238 rfl (lv_at hl 3 rfl) ?_
                    refine g_X12_22 hF hW dX12_walk_239 ?_
                    refine lv_aload_n hx hb dX12_walk_242 rfl (lv_at hl 3 rfl) ?_
                    refine g_X12_32 hF hW dX12_walk_243 ?_
                    refine lv_iload_n hx hb dX12_walk_246 rfl (lv_at hl 2 rfl) ?_
                    obtain ⟨q51, h⟩ := ck_some h
                    refine w_ild hF hW (pM_8 K a _) q51 dX12_walk_247 ?_
                    refine lv_lload_n hx hb dX12_walk_248 rfl (lv_at hl 1 rfl) ?_
                    obtain ⟨q52, h⟩ := ck_some h
                    refine w_lst hF hW (pM_5 K a _) q52 (uM_5 K a _ _ _) dX12_walk_249 (fun H locs hW => ?_)
                    refine lv_aload_n hx hb dX12_walk_250 rfl (lv_at hl 3 rfl) ?_
                    refine g_X12_87 hF hW dX12_walk_251 ?_
                    refine lv_iload_n hx hb dX12_walk_254 rfl (lv_at hl 0 rfl) ?_
                    refine lv_aload_n hx hb dX12_walk_255 rfl (lv_at hl 3 rfl) ?_
                    refine lv_iload_n hx hb dX12_walk_256 rfl (lv_at hl 0 rfl) ?_
                    obtain ⟨r53, M54, hc55, h⟩ := bd_some h
                    refine cV_i (ci := 12) (q0 := 0) (rest := [.int (x1 + 1), .ref (a 26)]) hF hW mw_X12_254 (c_X12_turns l K a hc55) ⟨Nat.le_of_ble_eq_true rfl, Nat.le_of_ble_eq_true rfl⟩ rfl rfl (pM_0 K a _) rfl hl.1 rfl (Nat.le_of_ble_eq_true rfl) dX12_walk_257 ⟨Nat.le_of_ble_eq_true rfl, Nat.le_of_ble_eq_true rfl⟩ (fun _ H locs hW => ?_)
                    refine lz_eq (tgt := 272) hx hb dX12_walk_260 (by decide) (fun q56 => ?_) (fun q56 => ?_)
                    · have h := ifn q56 h
                      refine lv_aload_n hx hb dX12_walk_272 rfl (lv_at hl 3 rfl) ?_
                      refine g_X12_170 hF hW dX12_walk_273 ?_
                      exact J276 (x1 + 1) r42 (x1 + 1) (M54.1 102 0) _ _ _ _ h hW (lv_sub hl [3, 0, 1] rfl)
                    · have h := ifp q56 h
                      refine lv_aload_n hx hb dX12_walk_263 rfl (lv_at hl 3 rfl) ?_
                      refine lv_iload_n hx hb dX12_walk_264 rfl (lv_at hl 2 rfl) ?_
                      refine lv_iconst (v := 0) hx hb dX12_walk_265 (by decide) ?_
                      obtain ⟨r57, hc59, h⟩ := bq_some h
                      refine cV_i (ci := 12) (q0 := 0) (rest := [.int (x1 + 1), .ref (a 26)]) hF hW mw_X12_242 (c_X12_nextIn l K a hc59) ⟨Nat.le_of_ble_eq_true rfl, Nat.le_of_ble_eq_true rfl⟩ rfl rfl (pM_0 K a _) rfl hl.1 rfl (Nat.le_of_ble_eq_true rfl) dX12_walk_266 ⟨Nat.le_of_ble_eq_true rfl, Nat.le_of_ble_eq_true rfl⟩ (fun _ H locs hW => ?_)
                      refine lv_goto (tgt := 276) hx hb dX12_walk_269 (by decide) ?_
                      exact J276 (x1 + 1) r42 (x1 + 1) r57 _ _ _ _ h hW (lv_sub hl [3, 0, 1] rfl)
                  · have h := ifp q40 h
                    refine lv_aload_n hx hb dX12_walk_131 rfl (lv_at hl 1 rfl) ?_
                    refine lv_aload_n hx hb dX12_walk_132 rfl (lv_at hl 1 rfl) ?_
                    refine g_X12_35 hF hW dX12_walk_133 ?_
                    refine lv_iload_n hx hb dX12_walk_136 rfl (lv_at hl 0 rfl) ?_
                    obtain ⟨q60, h⟩ := ck_some h
                    refine w_ild hF hW (pM_9 K a _) q60 dX12_walk_137 ?_
                    obtain ⟨r61, hc63, h⟩ := bq_some h
                    refine cV_l (ci := 12) (q0 := 0) (rest := []) hF hW mw_X12_250 (c_X12_valueOf l K a hc63) ⟨Nat.le_of_ble_eq_true rfl, Nat.le_of_ble_eq_true rfl⟩ rfl rfl (pM_0 K a _) rfl hl.1 rfl (Nat.le_of_ble_eq_true rfl) dX12_walk_138 ⟨Nat.le_of_ble_eq_true rfl, Nat.le_of_ble_eq_true rfl⟩ (fun _ H locs hW => ?_)
                    refine lv_lstore_n (lv' := [(3, .long r61), (2, .int (M.1 26 x1.toNatClampNeg)), (0, .ref (a 0)), (1, .int x1)]) hx hb dX12_walk_141 rfl hl (by decide) rfl (fun ls hl => ?_)
                    refine lv_aload_n hx hb dX12_walk_142 rfl (lv_at hl 2 rfl) ?_
                    refine g_X12_38 hF hW dX12_walk_143 ?_
                    refine lv_iload_n hx hb dX12_walk_146 rfl (lv_at hl 1 rfl) ?_
                    obtain ⟨q64, h⟩ := ck_some h
                    refine w_ild hF hW (pM_10 K a _) q64 dX12_walk_147 ?_
                    refine lv_if_ne (tgt := 160) hx hb dX12_walk_148 (by decide) (fun q65 => ?_) (fun q65 => ?_)
                    · have h := ifn q65 h
                      refine lv_lload_n hx hb dX12_walk_160 rfl (lv_at hl 0 rfl) ?_
                      refine lv_aload_n hx hb dX12_walk_161 rfl (lv_at hl 2 rfl) ?_
                      refine g_X12_38 hF hW dX12_walk_162 ?_
                      refine lv_iload_n hx hb dX12_walk_165 rfl (lv_at hl 1 rfl) ?_
                      obtain ⟨q66, h⟩ := ck_some h
                      refine w_ild hF hW (pM_10 K a _) q66 dX12_walk_166 ?_
                      refine lv_i2l hx hb dX12_walk_167 rfl ?_
                      obtain ⟨q67, h⟩ := nzL_some h
                      refine lv_lrem hx hb dX12_walk_168 q67 ?_
                      refine lv_lconst (v := 0) hx hb dX12_walk_169 (by decide) ?_
                      refine ll_ne (tgt := 196) hx hb dX12_walk_170 dX12_walk_171 (by decide) (fun q68 => ?_) (fun q68 => ?_)
                      · have h := ifn q68 h
                        refine lv_goto (tgt := 372) hx hb dX12_walk_196 (by decide) ?_
                        refine lv_goto (tgt := 58) hx hb dX12_walk_372 (by decide) ?_
                        exact ih58 x1 _ _ _ _ h hW (lv_sub hl [2, 3] rfl)
                      · have h := ifp q68 h
                        exact J174 x1 (M.1 26 x1.toNatClampNeg) _ _ _ _ h hW (lv_sub hl [2, 3, 1] rfl)
                    · have h := ifp q65 h
                      refine lv_lload_n hx hb dX12_walk_151 rfl (lv_at hl 0 rfl) ?_
                      refine lv_lconst (v := 0) hx hb dX12_walk_152 (by decide) ?_
                      refine ll_lt (tgt := 196) hx hb dX12_walk_153 dX12_walk_154 (by decide) (fun q69 => ?_) (fun q69 => ?_)
                      · have h := ifp q69 h
                        refine lv_goto (tgt := 372) hx hb dX12_walk_196 (by decide) ?_
                        refine lv_goto (tgt := 58) hx hb dX12_walk_372 (by decide) ?_
                        exact ih58 x1 _ _ _ _ h hW (lv_sub hl [2, 3] rfl)
                      · have h := ifn q69 h
                        refine lv_goto (tgt := 174) hx hb dX12_walk_157 (by decide) ?_
                        exact J174 x1 (M.1 26 x1.toNatClampNeg) _ _ _ _ h hW (lv_sub hl [2, 3, 1] rfl)
                · have h := ifp q38 h
                  refine lv_aload_n hx hb dX12_walk_113 rfl (lv_at hl 1 rfl) ?_
                  refine lv_iload_n hx hb dX12_walk_114 rfl (lv_at hl 0 rfl) ?_
                  obtain ⟨M71, hc72, h⟩ := bm_some h
                  refine cV_v (ci := 12) (q0 := 0) (rest := []) hF hW mw_X12_246 (c_X12_see l K a hc72) ⟨Nat.le_of_ble_eq_true rfl, Nat.le_of_ble_eq_true rfl⟩ rfl rfl (pM_0 K a _) rfl hl.1 rfl (Nat.le_of_ble_eq_true rfl) dX12_walk_115 ⟨Nat.le_of_ble_eq_true rfl, Nat.le_of_ble_eq_true rfl⟩ (fun _ H locs hW => ?_)
                  refine lv_goto (tgt := 372) hx hb dX12_walk_118 (by decide) ?_
                  refine lv_goto (tgt := 58) hx hb dX12_walk_372 (by decide) ?_
                  exact ih58 x1 _ _ _ _ h hW (lv_sub hl [1, 2] rfl)
      intro x1 M H locs ls h hW hl
      rw [f_X12_walk_17] at h
      refine lv_iload_n hx hb dX12_walk_17 rfl (lv_at hl 1 rfl) ?_
      refine lv_iconst (v := 4) hx hb dX12_walk_18 (by decide) ?_
      refine lv_icmp_ge (tgt := 35) hx hb dX12_walk_19 (by decide) (fun q1 => ?_) (fun q1 => ?_)
      · have h := ifp q1 h
        refine lv_iconst (v := 0) hx hb dX12_walk_35 (by decide) ?_
        refine lv_istore_n (lv' := [(1, .int 0), (0, .ref (a 0))]) hx hb dX12_walk_36 rfl hl (by decide) rfl (fun ls hl => ?_)
        refine lv_aload_n hx hb dX12_walk_37 rfl (lv_at hl 1 rfl) ?_
        refine g_X12_84 hF hW dX12_walk_38 ?_
        refine lv_iconst (v := 0) hx hb dX12_walk_41 (by decide) ?_
        refine lv_bipush (v := (-9)) hx hb dX12_walk_42 (by decide) ?_
        obtain ⟨q2, h⟩ := ck_some h
        refine w_ist hF hW (pM_25 K a _) q2 (uM_25 K a _ _ _) dX12_walk_44 (fun H locs hW => ?_)
        refine lv_aload_n hx hb dX12_walk_45 rfl (lv_at hl 1 rfl) ?_
        refine g_X12_87 hF hW dX12_walk_46 ?_
        refine lv_iconst (v := 0) hx hb dX12_walk_49 (by decide) ?_
        refine lv_aload_n hx hb dX12_walk_50 rfl (lv_at hl 1 rfl) ?_
        refine lv_bipush (v := (-9)) hx hb dX12_walk_51 (by decide) ?_
        refine lv_iconst (v := 0) hx hb dX12_walk_53 (by decide) ?_
        obtain ⟨r3, hc5, h⟩ := bq_some h
        refine cV_i (ci := 12) (q0 := 0) (rest := [.int 0, .ref (a 26)]) hF hW mw_X12_242 (c_X12_nextIn l K a hc5) ⟨Nat.le_of_ble_eq_true rfl, Nat.le_of_ble_eq_true rfl⟩ rfl rfl (pM_0 K a _) rfl hl.1 rfl (Nat.le_of_ble_eq_true rfl) dX12_walk_54 ⟨Nat.le_of_ble_eq_true rfl, Nat.le_of_ble_eq_true rfl⟩ (fun _ H locs hW => ?_)
        obtain ⟨q6, h⟩ := ck_some h
        refine w_ist hF hW (pM_26 K a _) q6 (uM_26 K a _ _ _) dX12_walk_57 (fun H locs hW => ?_)
        exact J58 wkFuel 0 _ _ _ _ h hW (lv_sub hl [1, 0] rfl)
      · have h := ifn q1 h
        refine lv_aload_n hx hb dX12_walk_22 rfl (lv_at hl 0 rfl) ?_
        refine g_X12_22 hF hW dX12_walk_23 ?_
        refine lv_iload_n hx hb dX12_walk_26 rfl (lv_at hl 1 rfl) ?_
        refine lv_lconst (v := 0) hx hb dX12_walk_27 (by decide) ?_
        obtain ⟨q7, h⟩ := ck_some h
        refine w_lst hF hW (pM_5 K a _) q7 (uM_5 K a _ _ _) dX12_walk_28 (fun H locs hW => ?_)
        refine lv_iinc (v := (x1 + 1)) (lv' := [(1, .int (x1 + 1)), (0, .ref (a 0))]) hx hb dX12_walk_29 hl (k := 1) rfl rfl (by decide) rfl (fun ls hl => ?_)
        refine lv_goto (tgt := 17) hx hb dX12_walk_32 (by decide) ?_
        exact ih17 (x1 + 1) _ _ _ _ h hW (lv_sub hl [1, 0] rfl)
  unfold f_X12_walk at h
  refine lv_aload_n hx hb dX12_walk_0 rfl (lv_at hl 0 rfl) ?_
  refine lv_iconst (v := 0) hx hb dX12_walk_1 (by decide) ?_
  refine s_X12_239 (x := 0) hF hW dX12_walk_2 (fun H locs hW => ?_)
  refine lv_aload_n hx hb dX12_walk_5 rfl (lv_at hl 0 rfl) ?_
  refine lv_iconst (v := 0) hx hb dX12_walk_6 (by decide) ?_
  refine s_X12_232 (x := 0) hF hW dX12_walk_7 (fun H locs hW => ?_)
  refine lv_aload_n hx hb dX12_walk_10 rfl (lv_at hl 0 rfl) ?_
  refine lv_iconst (v := 0) hx hb dX12_walk_11 (by decide) ?_
  refine s_X12_235 (x := false) hF hW dX12_walk_12 (fun H locs hW => ?_)
  refine lv_iconst (v := 0) hx hb dX12_walk_15 (by decide) ?_
  refine lv_istore_n (lv' := [(1, .int 0), (0, .ref (a 0))]) hx hb dX12_walk_16 rfl hl (by decide) rfl (fun ls hl => ?_)
  exact J17 100000 0 _ _ _ _ h hW (lv_sub hl [1, 0] rfl)
