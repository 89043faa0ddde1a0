set_option maxRecDepth 100000 in
set_option maxHeartbeats 1000000 in
theorem c_X12_visits (l : Launch) (K : Kx) (a : Nat → Nat) {M M0 : Mem}  {r0 : Int32} (h : f_X12_visits M = some (r0, M0)) : CMi l yX12_visits cX12_visits 1 (some .int) ({ frames := 2, cells := 0, slots := 0, locals := 48 } : Room) K [.ref (a 0)] (wM K a M) (fun _ => wM K a M0) r0 := by
  refine cs_i (by decide +kernel) (Nat.le_of_ble_eq_true rfl) ?_
  intro p e s m args below meth c A ls hF hr hk hnm hW hl
  have hx := hF.1
  have hb := hF.2.1
  have hl : lv_has ls 1 [(0, .ref (a 0))] := hl
  obtain ⟨H, hH⟩ : ∃ z, z = s.heap := ⟨_, rfl⟩
  rw [← hH] at hW ⊢
  unfold f_X12_visits at h
  refine lv_aload_n hx hb dX12_visits_0 rfl (lv_at hl 0 rfl) ?_
  obtain ⟨r1, M2, hc3, h⟩ := bd_some h
  refine cV_i (ci := 12) (q0 := 0) (rest := []) hF hW mw_X12_273 (c_X12_walk l K a hc3) ⟨Nat.le_of_ble_eq_true rfl, Nat.le_of_ble_eq_true rfl⟩ rfl rfl (pM_0 K a _) rfl hl.1 rfl (Nat.le_of_ble_eq_true rfl) dX12_visits_1 ⟨Nat.le_of_ble_eq_true rfl, Nat.le_of_ble_eq_true rfl⟩ (fun _ H locs hW => ?_)
  refine lz_eq (tgt := 12) hx hb dX12_visits_4 (by decide) (fun q4 => ?_) (fun q4 => ?_)
  · have h := ifn q4 h
    refine lv_aload_n hx hb dX12_visits_12 rfl (lv_at hl 0 rfl) ?_
    refine g_X12_239 hF hW dX12_visits_13 ?_
    obtain ⟨rfl, rfl⟩ := Prod.mk.inj (Option.some.inj h)
    exact rt_i hF hr hk rfl (fun _ => 0) hW rfl dX12_visits_16
  · have h := ifp q4 h
    refine lv_bipush (v := (-6)) hx hb dX12_visits_7 (by decide) ?_
    refine lv_goto (tgt := 16) hx hb dX12_visits_9 (by decide) ?_
    obtain ⟨rfl, rfl⟩ := Prod.mk.inj (Option.some.inj h)
    exact rt_i hF hr hk rfl (fun _ => 0) hW rfl dX12_visits_16
set_option maxRecDepth 100000 in
set_option maxHeartbeats 1000000 in
theorem c_X12_visit (l : Launch) (K : Kx) (a : Nat → Nat) {M M0 : Mem} {x1 : Int32} {x2 : Int32} {x3 : Bool} {r0 : Int32} (h : f_X12_visit M x1 x2 x3 = some (r0, M0)) : CMi l yX12_visit cX12_visit 5 (some .int) ({ frames := 2, cells := 0, slots := 0, locals := 52 } : Room) K [.ref (a 0), .int x1, .int x2, .int (bI x3)] (wM K a M) (fun _ => wM K a M0) r0 := by
  refine cs_i (by decide +kernel) (Nat.le_of_ble_eq_true rfl) ?_
  intro p e s m args below meth c A ls hF hr hk hnm hW hl
  have hx := hF.1
  have hb := hF.2.1
  have hl : lv_has ls 5 [(0, .ref (a 0)), (1, .int x1), (2, .int x2), (3, .int (bI x3))] := hl
  obtain ⟨H, hH⟩ : ∃ z, z = s.heap := ⟨_, rfl⟩
  rw [← hH] at hW ⊢
  have J62 : ∀ (x2 : Int32) (x4 : Int32) (M : Mem) (H : Heap) (locs : List Loc) (ls : Array Slot), f_X12_visit_62 x2 x4 M = some (r0, M0) → Wd K A s (wM K a M) H locs → lv_has ls 5 [(0, .ref (a 0)), (2, .int x2), (4, .int x4)] → W p l e ({ frames := 2, cells := 0, slots := 0, locals := 52 } : Room) s m args below meth c H locs 0 0 (EndI K A (fun _ => wM K a M0) r0 below args s ({ frames := 2, cells := 0, slots := 0, locals := 52 } : Room)) (F0 m 62 ls []) := by
    intro x2 x4 M H locs ls h hW hl
    unfold f_X12_visit_62 at h
    refine lv_iload_n hx hb dX12_visit_62 rfl (lv_at hl 1 rfl) ?_
    refine lv_if_ne (tgt := 76) hx hb dX12_visit_63 (by decide) (fun q18 => ?_) (fun q18 => ?_)
    · have h := ifn q18 h
      refine lv_ldc2 hx hb hF.2.2.2.1 (hF.2.2.1 _ kl_X12_280) dX12_visit_76 ?_
      refine lv_aload_n hx hb dX12_visit_79 rfl (lv_at hl 0 rfl) ?_
      refine g_X12_81 hF hW dX12_visit_80 ?_
      refine lv_iconst (v := 4) hx hb dX12_visit_83 (by decide) ?_
      refine lv_iload hx hb dX12_visit_84 (lv_at hl 2 rfl) ?_
      refine lv_imul hx hb dX12_visit_86 ?_
      refine lv_iload_n hx hb dX12_visit_87 rfl (lv_at hl 1 rfl) ?_
      refine lv_iadd hx hb dX12_visit_88 ?_
      refine lv_iconst (v := 1) hx hb dX12_visit_89 (by decide) ?_
      refine lv_isub hx hb dX12_visit_90 ?_
      obtain ⟨q19, h⟩ := ck_some h
      refine w_lld hF hW (pM_24 K a _) q19 dX12_visit_91 ?_
      refine lv_ladd hx hb dX12_visit_92 ?_
      refine lv_l2i hx hb dX12_visit_93 rfl ?_
      obtain ⟨rfl, rfl⟩ := Prod.mk.inj (Option.some.inj h)
      exact rt_i hF hr hk rfl (fun _ => 0) hW rfl dX12_visit_94
    · have h := ifp q18 h
      refine lv_aload_n hx hb dX12_visit_66 rfl (lv_at hl 0 rfl) ?_
      refine g_X12_78 hF hW dX12_visit_67 ?_
      refine lv_iload hx hb dX12_visit_70 (lv_at hl 2 rfl) ?_
      obtain ⟨q20, h⟩ := ck_some h
      refine w_ild hF hW (pM_23 K a _) q20 dX12_visit_72 ?_
      refine lv_goto (tgt := 94) hx hb dX12_visit_73 (by decide) ?_
      obtain ⟨rfl, rfl⟩ := Prod.mk.inj (Option.some.inj h)
      exact rt_i hF hr hk rfl (fun _ => 0) hW rfl dX12_visit_94
  unfold f_X12_visit at h
  refine lv_iload_n hx hb dX12_visit_0 rfl (lv_at hl 2 rfl) ?_
  refine lv_i2l hx hb dX12_visit_1 rfl ?_
  refine lv_lconst (v := 0) hx hb dX12_visit_2 (by decide) ?_
  refine lv_ldc2 hx hb hF.2.2.2.1 (hF.2.2.1 _ kl_X12_210) dX12_visit_3 ?_
  obtain ⟨r1, hc3, h⟩ := bq_some h
  refine cS_i (rest := []) hF hW mw_X12_154 (c_X12_in l K hc3) ⟨Nat.le_of_ble_eq_true rfl, Nat.le_of_ble_eq_true rfl⟩ rfl hl.1 rfl (Nat.le_of_ble_eq_true rfl) dX12_visit_6 ⟨Nat.le_of_ble_eq_true rfl, Nat.le_of_ble_eq_true rfl⟩ (fun _ H locs hW => ?_)
  refine lz_ne (tgt := 14) hx hb dX12_visit_9 (by decide) (fun q4 => ?_) (fun q4 => ?_)
  · have h := ifp q4 h
    refine lv_aload_n hx hb dX12_visit_14 rfl (lv_at hl 0 rfl) ?_
    obtain ⟨r5, M6, hc7, h⟩ := bd_some h
    refine cV_i (ci := 12) (q0 := 0) (rest := []) hF hW mw_X12_273 (c_X12_walk l K a hc7) ⟨Nat.le_of_ble_eq_true rfl, Nat.le_of_ble_eq_true rfl⟩ rfl rfl (pM_0 K a _) rfl hl.1 rfl (Nat.le_of_ble_eq_true rfl) dX12_visit_15 ⟨Nat.le_of_ble_eq_true rfl, Nat.le_of_ble_eq_true rfl⟩ (fun _ H locs hW => ?_)
    refine lz_eq (tgt := 24) hx hb dX12_visit_18 (by decide) (fun q8 => ?_) (fun q8 => ?_)
    · have h := ifn q8 h
      refine lv_iload_n hx hb dX12_visit_24 rfl (lv_at hl 1 rfl) ?_
      refine lv_i2l hx hb dX12_visit_25 rfl ?_
      refine lv_lconst (v := 0) hx hb dX12_visit_26 (by decide) ?_
      refine lv_aload_n hx hb dX12_visit_27 rfl (lv_at hl 0 rfl) ?_
      refine g_X12_239 hF hW dX12_visit_28 ?_
      refine lv_iconst (v := 1) hx hb dX12_visit_31 (by decide) ?_
      refine lv_isub hx hb dX12_visit_32 ?_
      refine lv_i2l hx hb dX12_visit_33 rfl ?_
      obtain ⟨r9, hc11, h⟩ := bq_some h
      refine cS_i (rest := []) hF hW mw_X12_154 (c_X12_in l K hc11) ⟨Nat.le_of_ble_eq_true rfl, Nat.le_of_ble_eq_true rfl⟩ rfl hl.1 rfl (Nat.le_of_ble_eq_true rfl) dX12_visit_34 ⟨Nat.le_of_ble_eq_true rfl, Nat.le_of_ble_eq_true rfl⟩ (fun _ H locs hW => ?_)
      refine lz_ne (tgt := 43) hx hb dX12_visit_37 (by decide) (fun q12 => ?_) (fun q12 => ?_)
      · have h := ifp q12 h
        refine lv_iload_n hx hb dX12_visit_43 rfl (lv_at hl 1 rfl) ?_
        refine lv_istore (lv' := [(4, .int x1), (0, .ref (a 0)), (1, .int x1), (2, .int x2), (3, .int (bI x3))]) hx hb dX12_visit_44 hl (by decide) rfl (fun ls hl => ?_)
        refine lv_iload_n hx hb dX12_visit_46 rfl (lv_at hl 4 rfl) ?_
        refine lz_eq (tgt := 62) hx hb dX12_visit_47 (by decide) (fun q13 => ?_) (fun q13 => ?_)
        · have h := ifn q13 h
          exact J62 x2 x1 _ _ _ _ h hW (lv_sub hl [1, 3, 0] rfl)
        · have h := ifp q13 h
          refine lv_aload_n hx hb dX12_visit_50 rfl (lv_at hl 1 rfl) ?_
          obtain ⟨M15, hc16, h⟩ := bm_some h
          refine cV_v (ci := 12) (q0 := 0) (rest := []) hF hW mw_X12_277 (c_X12_layOrder l K a hc16) ⟨Nat.le_of_ble_eq_true rfl, Nat.le_of_ble_eq_true rfl⟩ rfl rfl (pM_0 K a _) rfl hl.1 rfl (Nat.le_of_ble_eq_true rfl) dX12_visit_51 ⟨Nat.le_of_ble_eq_true rfl, Nat.le_of_ble_eq_true rfl⟩ (fun _ H locs hW => ?_)
          refine lv_aload_n hx hb dX12_visit_54 rfl (lv_at hl 1 rfl) ?_
          refine g_X12_124 hF hW dX12_visit_55 ?_
          refine lv_iload_n hx hb dX12_visit_58 rfl (lv_at hl 2 rfl) ?_
          obtain ⟨q17, h⟩ := ck_some h
          refine w_ild hF hW (pM_38 K a _) q17 dX12_visit_59 ?_
          refine lv_istore (lv' := [(4, .int (M15.1 38 x1.toNatClampNeg)), (0, .ref (a 0)), (1, .int x1), (2, .int x2), (3, .int (bI x3))]) hx hb dX12_visit_60 hl (by decide) rfl (fun ls hl => ?_)
          exact J62 x2 (M15.1 38 x1.toNatClampNeg) _ _ _ _ h hW (lv_sub hl [1, 3, 0] rfl)
      · have h := ifn q12 h
        refine lv_bipush (v := (-9)) hx hb dX12_visit_40 (by decide) ?_
        obtain ⟨rfl, rfl⟩ := Prod.mk.inj (Option.some.inj h)
        exact rt_i hF hr hk rfl (fun _ => 0) hW rfl dX12_visit_42
    · have h := ifp q8 h
      refine lv_bipush (v := (-6)) hx hb dX12_visit_21 (by decide) ?_
      obtain ⟨rfl, rfl⟩ := Prod.mk.inj (Option.some.inj h)
      exact rt_i hF hr hk rfl (fun _ => 0) hW rfl dX12_visit_23
  · have h := ifn q4 h
    refine lv_iconst (v := (-1)) hx hb dX12_visit_12 (by decide) ?_
    obtain ⟨rfl, rfl⟩ := Prod.mk.inj (Option.some.inj h)
    exact rt_i hF hr hk rfl (fun _ => 0) hW rfl dX12_visit_13
set_option maxRecDepth 100000 in
set_option maxHeartbeats 1000000 in
theorem c_X12_has (l : Launch) (K : Kx) (a : Nat → Nat) {M M0 : Mem} {x1 : Int32} {x2 : Int32} {x3 : Int32} {x4 : Int32} {x5 : Int32} {r0 : Int32} (h : f_X12_has M x1 x2 x3 x4 x5 = some (r0, M0)) : CMi l yX12_has cX12_has 8 (some .int) ({ frames := 2, cells := 0, slots := 0, locals := 48 } : Room) K [.ref (a 0), .int x1, .int x2, .int x3, .int x4, .int x5] (wM K a M) (fun _ => wM K a M0) r0 := by
  refine cs_i (by decide +kernel) (Nat.le_of_ble_eq_true rfl) ?_
  intro p e s m args below meth c A ls hF hr hk hnm hW hl
  have hx := hF.1
  have hb := hF.2.1
  have hl : lv_has ls 8 [(0, .ref (a 0)), (1, .int x1), (2, .int x2), (3, .int x3), (4, .int x4), (5, .int x5)] := hl
  obtain ⟨H, hH⟩ : ∃ z, z = s.heap := ⟨_, rfl⟩
  rw [← hH] at hW ⊢
  have J39 : ∀ (n39 : Nat) (x1 : Int32) (x2 : Int32) (x3 : Int32) (x4 : Int32) (x5 : Int32) (x6 : Int32) (M : Mem) (H : Heap) (locs : List Loc) (ls : Array Slot), f_X12_has_39 n39 x1 x2 x3 x4 x5 x6 M = some (r0, M0) → Wd K A s (wM K a M) H locs → lv_has ls 8 [(0, .ref (a 0)), (1, .int x1), (2, .int x2), (3, .int x3), (4, .int x4), (5, .int x5), (6, .int x6)] → W p l e ({ frames := 2, cells := 0, slots := 0, locals := 48 } : Room) s m args below meth c H locs 0 0 (EndI K A (fun _ => wM K a M0) r0 below args s ({ frames := 2, cells := 0, slots := 0, locals := 48 } : Room)) (F0 m 39 ls []) := by
    intro n39
    induction n39 with
    | zero => intro x1 x2 x3 x4 x5 x6 M H locs ls h; exact absurd h (by simp [f_X12_has_39])
    | succ n39 ih39 =>
      intro x1 x2 x3 x4 x5 x6 M H locs ls h hW hl
      rw [f_X12_has_39] at h
      refine lv_iload hx hb dX12_has_39 (lv_at hl 6 rfl) ?_
      refine lv_aload_n hx hb dX12_has_41 rfl (lv_at hl 0 rfl) ?_
      refine g_X12_239 hF hW dX12_has_42 ?_
      refine lv_icmp_ge (tgt := 133) hx hb dX12_has_45 (by decide) (fun q14 => ?_) (fun q14 => ?_)
      · have h := ifp q14 h
        refine lv_iconst (v := 0) hx hb dX12_has_133 (by decide) ?_
        obtain ⟨rfl, rfl⟩ := Prod.mk.inj (Option.some.inj h)
        exact rt_i hF hr hk rfl (fun _ => 0) hW rfl dX12_has_134
      · have h := ifn q14 h
        refine lv_iconst (v := 4) hx hb dX12_has_48 (by decide) ?_
        refine lv_iload hx hb dX12_has_49 (lv_at hl 6 rfl) ?_
        refine lv_imul hx hb dX12_has_51 ?_
        refine lv_istore (lv' := [(7, .int (4 * x6)), (0, .ref (a 0)), (1, .int x1), (2, .int x2), (3, .int x3), (4, .int x4), (5, .int x5), (6, .int x6)]) hx hb dX12_has_52 hl (by decide) rfl (fun ls hl => ?_)
        refine lv_aload_n hx hb dX12_has_54 rfl (lv_at hl 1 rfl) ?_
        refine g_X12_78 hF hW dX12_has_55 ?_
        refine lv_iload hx hb dX12_has_58 (lv_at hl 7 rfl) ?_
        obtain ⟨q15, h⟩ := ck_some h
        refine w_ild hF hW (pM_23 K a _) q15 dX12_has_60 ?_
        refine lv_iload_n hx hb dX12_has_61 rfl (lv_at hl 2 rfl) ?_
        refine lv_icmp_ne (tgt := 127) hx hb dX12_has_62 (by decide) (fun q16 => ?_) (fun q16 => ?_)
        · have h := ifn q16 h
          refine lv_iinc (v := (x6 + 1)) (lv' := [(6, .int (x6 + 1)), (7, .int (4 * x6)), (0, .ref (a 0)), (1, .int x1), (2, .int x2), (3, .int x3), (4, .int x4), (5, .int x5)]) hx hb dX12_has_127 hl (k := 7) rfl rfl (by decide) rfl (fun ls hl => ?_)
          refine lv_goto (tgt := 39) hx hb dX12_has_130 (by decide) ?_
          exact ih39 x1 x2 x3 x4 x5 (x6 + 1) _ _ _ _ h hW (lv_sub hl [2, 3, 4, 5, 6, 7, 0] rfl)
        · have h := ifp q16 h
          refine lv_aload_n hx hb dX12_has_65 rfl (lv_at hl 1 rfl) ?_
          refine g_X12_81 hF hW dX12_has_66 ?_
          refine lv_iload hx hb dX12_has_69 (lv_at hl 0 rfl) ?_
          obtain ⟨q17, h⟩ := ck_some h
          refine w_lld hF hW (pM_24 K a _) q17 dX12_has_71 ?_
          refine lv_iload_n hx hb dX12_has_72 rfl (lv_at hl 3 rfl) ?_
          refine lv_i2l hx hb dX12_has_73 rfl ?_
          refine ll_ne (tgt := 127) hx hb dX12_has_74 dX12_has_75 (by decide) (fun q18 => ?_) (fun q18 => ?_)
          · have h := ifn q18 h
            refine lv_iinc (v := (x6 + 1)) (lv' := [(6, .int (x6 + 1)), (7, .int (4 * x6)), (0, .ref (a 0)), (1, .int x1), (2, .int x2), (3, .int x3), (4, .int x4), (5, .int x5)]) hx hb dX12_has_127 hl (k := 7) rfl rfl (by decide) rfl (fun ls hl => ?_)
            refine lv_goto (tgt := 39) hx hb dX12_has_130 (by decide) ?_
            exact ih39 x1 x2 x3 x4 x5 (x6 + 1) _ _ _ _ h hW (lv_sub hl [2, 3, 4, 5, 6, 7, 0] rfl)
          · have h := ifp q18 h
            refine lv_aload_n hx hb dX12_has_78 rfl (lv_at hl 1 rfl) ?_
            refine g_X12_81 hF hW dX12_has_79 ?_
            refine lv_iload hx hb dX12_has_82 (lv_at hl 0 rfl) ?_
            refine lv_iconst (v := 1) hx hb dX12_has_84 (by decide) ?_
            refine lv_iadd hx hb dX12_has_85 ?_
            obtain ⟨q19, h⟩ := ck_some h
            refine w_lld hF hW (pM_24 K a _) q19 dX12_has_86 ?_
            refine lv_iload_n hx hb dX12_has_87 rfl (lv_at hl 4 rfl) ?_
            refine lv_i2l hx hb dX12_has_88 rfl ?_
            refine ll_ne (tgt := 127) hx hb dX12_has_89 dX12_has_90 (by decide) (fun q20 => ?_) (fun q20 => ?_)
            · have h := ifn q20 h
              refine lv_iinc (v := (x6 + 1)) (lv' := [(6, .int (x6 + 1)), (7, .int (4 * x6)), (0, .ref (a 0)), (1, .int x1), (2, .int x2), (3, .int x3), (4, .int x4), (5, .int x5)]) hx hb dX12_has_127 hl (k := 7) rfl rfl (by decide) rfl (fun ls hl => ?_)
              refine lv_goto (tgt := 39) hx hb dX12_has_130 (by decide) ?_
              exact ih39 x1 x2 x3 x4 x5 (x6 + 1) _ _ _ _ h hW (lv_sub hl [2, 3, 4, 5, 6, 7, 0] rfl)
            · have h := ifp q20 h
              refine lv_aload_n hx hb dX12_has_93 rfl (lv_at hl 1 rfl) ?_
              refine g_X12_81 hF hW dX12_has_94 ?_
              refine lv_iload hx hb dX12_has_97 (lv_at hl 0 rfl) ?_
              refine lv_iconst (v := 2) hx hb dX12_has_99 (by decide) ?_
              refine lv_iadd hx hb dX12_has_100 ?_
              obtain ⟨q21, h⟩ := ck_some h
              refine w_lld hF hW (pM_24 K a _) q21 dX12_has_101 ?_
              refine lv_iload hx hb dX12_has_102 (lv_at hl 5 rfl) ?_
              refine lv_i2l hx hb dX12_has_104 rfl ?_
              refine ll_ne (tgt := 127) hx hb dX12_has_105 dX12_has_106 (by decide) (fun q22 => ?_) (fun q22 => ?_)
              · have h := ifn q22 h
                refine lv_iinc (v := (x6 + 1)) (lv' := [(6, .int (x6 + 1)), (7, .int (4 * x6)), (0, .ref (a 0)), (1, .int x1), (2, .int x2), (3, .int x3), (4, .int x4), (5, .int x5)]) hx hb dX12_has_127 hl (k := 7) rfl rfl (by decide) rfl (fun ls hl => ?_)
                refine lv_goto (tgt := 39) hx hb dX12_has_130 (by decide) ?_
                exact ih39 x1 x2 x3 x4 x5 (x6 + 1) _ _ _ _ h hW (lv_sub hl [2, 3, 4, 5, 6, 7, 0] rfl)
              · have h := ifp q22 h
                refine lv_aload_n hx hb dX12_has_109 rfl (lv_at hl 1 rfl) ?_
                refine g_X12_81 hF hW dX12_has_110 ?_
                refine lv_iload hx hb dX12_has_113 (lv_at hl 0 rfl) ?_
                refine lv_iconst (v := 3) hx hb dX12_has_115 (by decide) ?_
                refine lv_iadd hx hb dX12_has_116 ?_
                obtain ⟨q23, h⟩ := ck_some h
                refine w_lld hF hW (pM_24 K a _) q23 dX12_has_117 ?_
                refine lv_iload hx hb dX12_has_118 (lv_at hl 6 rfl) ?_
                refine lv_i2l hx hb dX12_has_120 rfl ?_
                refine ll_ne (tgt := 127) hx hb dX12_has_121 dX12_has_122 (by decide) (fun q24 => ?_) (fun q24 => ?_)
                · have h := ifn q24 h
                  refine lv_iinc (v := (x6 + 1)) (lv' := [(6, .int (x6 + 1)), (7, .int (4 * x6)), (0, .ref (a 0)), (1, .int x1), (2, .int x2), (3, .int x3), (4, .int x4), (5, .int x5)]) hx hb dX12_has_127 hl (k := 7) rfl rfl (by decide) rfl (fun ls hl => ?_)
                  refine lv_goto (tgt := 39) hx hb dX12_has_130 (by decide) ?_
                  exact ih39 x1 x2 x3 x4 x5 (x6 + 1) _ _ _ _ h hW (lv_sub hl [2, 3, 4, 5, 6, 7, 0] rfl)
                · have h := ifp q24 h
                  refine lv_iconst (v := 1) hx hb dX12_has_125 (by decide) ?_
                  obtain ⟨rfl, rfl⟩ := Prod.mk.inj (Option.some.inj h)
                  exact rt_i hF hr hk rfl (fun _ => 0) hW rfl dX12_has_126
  unfold f_X12_has at h
  refine lv_aload_n hx hb dX12_has_0 rfl (lv_at hl 0 rfl) ?_
  refine lv_iload_n hx hb dX12_has_1 rfl (lv_at hl 1 rfl) ?_
  obtain ⟨r1, hc3, h⟩ := bq_some h
  refine cV_i (ci := 12) (q0 := 0) (rest := []) hF hW mw_X12_177 (c_X12_isNode l K a hc3) ⟨Nat.le_of_ble_eq_true rfl, Nat.le_of_ble_eq_true rfl⟩ rfl rfl (pM_0 K a _) rfl hl.1 rfl (Nat.le_of_ble_eq_true rfl) dX12_has_2 ⟨Nat.le_of_ble_eq_true rfl, Nat.le_of_ble_eq_true rfl⟩ (fun _ H locs hW => ?_)
  refine lz_ne (tgt := 10) hx hb dX12_has_5 (by decide) (fun q4 => ?_) (fun q4 => ?_)
  · have h := ifp q4 h
    refine lv_aload_n hx hb dX12_has_10 rfl (lv_at hl 0 rfl) ?_
    obtain ⟨r5, M6, hc7, h⟩ := bd_some h
    refine cV_i (ci := 12) (q0 := 0) (rest := []) hF hW mw_X12_273 (c_X12_walk l K a hc7) ⟨Nat.le_of_ble_eq_true rfl, Nat.le_of_ble_eq_true rfl⟩ rfl rfl (pM_0 K a _) rfl hl.1 rfl (Nat.le_of_ble_eq_true rfl) dX12_has_11 ⟨Nat.le_of_ble_eq_true rfl, Nat.le_of_ble_eq_true rfl⟩ (fun _ H locs hW => ?_)
    refine lz_eq (tgt := 20) hx hb dX12_has_14 (by decide) (fun q8 => ?_) (fun q8 => ?_)
    · have h := ifn q8 h
      refine lv_aload_n hx hb dX12_has_20 rfl (lv_at hl 0 rfl) ?_
      refine g_X12_26 hF hW dX12_has_21 ?_
      refine lv_iload_n hx hb dX12_has_24 rfl (lv_at hl 1 rfl) ?_
      obtain ⟨q9, h⟩ := ck_some h
      refine w_ild hF hW (pM_6 K a _) q9 dX12_has_25 ?_
      refine lv_iconst (v := 3) hx hb dX12_has_26 (by decide) ?_
      refine lv_icmp_eq (tgt := 36) hx hb dX12_has_27 (by decide) (fun q10 => ?_) (fun q10 => ?_)
      · have h := ifp q10 h
        refine lv_iconst (v := 0) hx hb dX12_has_36 (by decide) ?_
        refine lv_istore (lv' := [(6, .int 0), (0, .ref (a 0)), (1, .int x1), (2, .int x2), (3, .int x3), (4, .int x4), (5, .int x5)]) hx hb dX12_has_37 hl (by decide) rfl (fun ls hl => ?_)
        exact J39 100000 x1 x2 x3 x4 x5 0 _ _ _ _ h hW (lv_sub hl [1, 2, 3, 4, 5, 6, 0] rfl)
      · have h := ifn q10 h
        refine lv_aload_n hx hb dX12_has_30 rfl (lv_at hl 0 rfl) ?_
        refine lv_iconst (v := 3) hx hb dX12_has_31 (by decide) ?_
        obtain ⟨r11, M12, hc13, h⟩ := bd_some h
        refine cV_i (ci := 12) (q0 := 0) (rest := []) hF hW mw_X12_207 (c_X12_meets l K a hc13) ⟨Nat.le_of_ble_eq_true rfl, Nat.le_of_ble_eq_true rfl⟩ rfl rfl (pM_0 K a _) rfl hl.1 rfl (Nat.le_of_ble_eq_true rfl) dX12_has_32 ⟨Nat.le_of_ble_eq_true rfl, Nat.le_of_ble_eq_true rfl⟩ (fun _ H locs hW => ?_)
        obtain ⟨rfl, rfl⟩ := Prod.mk.inj (Option.some.inj h)
        exact rt_i hF hr hk rfl (fun _ => 0) hW rfl dX12_has_35
    · have h := ifp q8 h
      refine lv_bipush (v := (-6)) hx hb dX12_has_17 (by decide) ?_
      obtain ⟨rfl, rfl⟩ := Prod.mk.inj (Option.some.inj h)
      exact rt_i hF hr hk rfl (fun _ => 0) hW rfl dX12_has_19
  · have h := ifn q4 h
    refine lv_iconst (v := (-1)) hx hb dX12_has_8 (by decide) ?_
    obtain ⟨rfl, rfl⟩ := Prod.mk.inj (Option.some.inj h)
    exact rt_i hF hr hk rfl (fun _ => 0) hW rfl dX12_has_9
set_option maxRecDepth 100000 in
set_option maxHeartbeats 1000000 in
theorem c_X12_points (l : Launch) (K : Kx) (a : Nat → Nat) {M M0 : Mem} {x1 : Int32} {r0 : Int32} (h : f_X12_points M x1 = some (r0, M0)) : CMi l yX12_points cX12_points 4 (some .int) ({ frames := 2, cells := 0, slots := 0, locals := 48 } : Room) K [.ref (a 0), .int x1] (wM K a M) (fun _ => wM K a M0) r0 := by
  refine cs_i (by decide +kernel) (Nat.le_of_ble_eq_true rfl) ?_
  intro p e s m args below meth c A ls hF hr hk hnm hW hl
  have hx := hF.1
  have hb := hF.2.1
  have hl : lv_has ls 4 [(0, .ref (a 0)), (1, .int x1)] := hl
  obtain ⟨H, hH⟩ : ∃ z, z = s.heap := ⟨_, rfl⟩
  rw [← hH] at hW ⊢
  have J40 : ∀ (n40 : Nat) (x1 : Int32) (x2 : Int32) (x3 : Int32) (M : Mem) (H : Heap) (locs : List Loc) (ls : Array Slot), f_X12_points_40 n40 x1 x2 x3 M = some (r0, M0) → Wd K A s (wM K a M) H locs → lv_has ls 4 [(0, .ref (a 0)), (1, .int x1), (2, .int x2), (3, .int x3)] → W p l e ({ frames := 2, cells := 0, slots := 0, locals := 48 } : Room) s m args below meth c H locs 0 0 (EndI K A (fun _ => wM K a M0) r0 below args s ({ frames := 2, cells := 0, slots := 0, locals := 48 } : Room)) (F0 m 40 ls []) := by
    intro n40
    induction n40 with
    | zero => intro x1 x2 x3 M H locs ls h; exact absurd h (by simp [f_X12_points_40])
    | succ n40 ih40 =>
      intro x1 x2 x3 M H locs ls h hW hl
      rw [f_X12_points_40] at h
      refine lv_iload_n hx hb dX12_points_40 rfl (lv_at hl 3 rfl) ?_
      refine lv_aload_n hx hb dX12_points_41 rfl (lv_at hl 0 rfl) ?_
      refine g_X12_239 hF hW dX12_points_42 ?_
      refine lv_icmp_ge (tgt := 72) hx hb dX12_points_45 (by decide) (fun q14 => ?_) (fun q14 => ?_)
      · have h := ifp q14 h
        refine lv_iload_n hx hb dX12_points_72 rfl (lv_at hl 2 rfl) ?_
        obtain ⟨rfl, rfl⟩ := Prod.mk.inj (Option.some.inj h)
        exact rt_i hF hr hk rfl (fun _ => 0) hW rfl dX12_points_73
      · have h := ifn q14 h
        refine lv_iload_n hx hb dX12_points_48 rfl (lv_at hl 2 rfl) ?_
        refine lv_aload_n hx hb dX12_points_49 rfl (lv_at hl 0 rfl) ?_
        refine g_X12_78 hF hW dX12_points_50 ?_
        refine lv_iload_n hx hb dX12_points_53 rfl (lv_at hl 3 rfl) ?_
        obtain ⟨q15, h⟩ := ck_some h
        refine w_ild hF hW (pM_23 K a _) q15 dX12_points_54 ?_
        refine lv_iload_n hx hb dX12_points_55 rfl (lv_at hl 1 rfl) ?_
        refine lv_icmp_ne (tgt := 63) hx hb dX12_points_56 (by decide) (fun q16 => ?_) (fun q16 => ?_)
        · have h := ifn q16 h
          refine lv_iconst (v := 0) hx hb dX12_points_63 (by decide) ?_
          refine lv_iadd hx hb dX12_points_64 ?_
          refine lv_istore_n (lv' := [(2, .int (x2 + 0)), (0, .ref (a 0)), (1, .int x1), (3, .int x3)]) hx hb dX12_points_65 rfl hl (by decide) rfl (fun ls hl => ?_)
          refine lv_iinc (v := (x3 + 1)) (lv' := [(3, .int (x3 + 1)), (2, .int (x2 + 0)), (0, .ref (a 0)), (1, .int x1)]) hx hb dX12_points_66 hl (k := 3) rfl rfl (by decide) rfl (fun ls hl => ?_)
          refine lv_goto (tgt := 40) hx hb dX12_points_69 (by decide) ?_
          exact ih40 x1 (x2 + 0) (x3 + 1) _ _ _ _ h hW (lv_sub hl [2, 3, 1, 0] rfl)
        · have h := ifp q16 h
          refine lv_iconst (v := 1) hx hb dX12_points_59 (by decide) ?_
          refine lv_goto (tgt := 64) hx hb dX12_points_60 (by decide) ?_
          refine lv_iadd hx hb dX12_points_64 ?_
          refine lv_istore_n (lv' := [(2, .int (x2 + 1)), (0, .ref (a 0)), (1, .int x1), (3, .int x3)]) hx hb dX12_points_65 rfl hl (by decide) rfl (fun ls hl => ?_)
          refine lv_iinc (v := (x3 + 1)) (lv' := [(3, .int (x3 + 1)), (2, .int (x2 + 1)), (0, .ref (a 0)), (1, .int x1)]) hx hb dX12_points_66 hl (k := 3) rfl rfl (by decide) rfl (fun ls hl => ?_)
          refine lv_goto (tgt := 40) hx hb dX12_points_69 (by decide) ?_
          exact ih40 x1 (x2 + 1) (x3 + 1) _ _ _ _ h hW (lv_sub hl [2, 3, 1, 0] rfl)
  unfold f_X12_points at h
  refine lv_aload_n hx hb dX12_points_0 rfl (lv_at hl 0 rfl) ?_
  refine lv_iload_n hx hb dX12_points_1 rfl (lv_at hl 1 rfl) ?_
  obtain ⟨r1, hc3, h⟩ := bq_some h
  refine cV_i (ci := 12) (q0 := 0) (rest := []) hF hW mw_X12_177 (c_X12_isNode l K a hc3) ⟨Nat.le_of_ble_eq_true rfl, Nat.le_of_ble_eq_true rfl⟩ rfl rfl (pM_0 K a _) rfl hl.1 rfl (Nat.le_of_ble_eq_true rfl) dX12_points_2 ⟨Nat.le_of_ble_eq_true rfl, Nat.le_of_ble_eq_true rfl⟩ (fun _ H locs hW => ?_)
  refine lz_ne (tgt := 10) hx hb dX12_points_5 (by decide) (fun q4 => ?_) (fun q4 => ?_)
  · have h := ifp q4 h
    refine lv_aload_n hx hb dX12_points_10 rfl (lv_at hl 0 rfl) ?_
    obtain ⟨r5, M6, hc7, h⟩ := bd_some h
    refine cV_i (ci := 12) (q0 := 0) (rest := []) hF hW mw_X12_273 (c_X12_walk l K a hc7) ⟨Nat.le_of_ble_eq_true rfl, Nat.le_of_ble_eq_true rfl⟩ rfl rfl (pM_0 K a _) rfl hl.1 rfl (Nat.le_of_ble_eq_true rfl) dX12_points_11 ⟨Nat.le_of_ble_eq_true rfl, Nat.le_of_ble_eq_true rfl⟩ (fun _ H locs hW => ?_)
    refine lz_eq (tgt := 20) hx hb dX12_points_14 (by decide) (fun q8 => ?_) (fun q8 => ?_)
    · have h := ifn q8 h
      refine lv_aload_n hx hb dX12_points_20 rfl (lv_at hl 0 rfl) ?_
      refine g_X12_26 hF hW dX12_points_21 ?_
      refine lv_iload_n hx hb dX12_points_24 rfl (lv_at hl 1 rfl) ?_
      obtain ⟨q9, h⟩ := ck_some h
      refine w_ild hF hW (pM_6 K a _) q9 dX12_points_25 ?_
      refine lv_iconst (v := 3) hx hb dX12_points_26 (by decide) ?_
      refine lv_icmp_eq (tgt := 36) hx hb dX12_points_27 (by decide) (fun q10 => ?_) (fun q10 => ?_)
      · have h := ifp q10 h
        refine lv_iconst (v := 0) hx hb dX12_points_36 (by decide) ?_
        refine lv_istore_n (lv' := [(2, .int 0), (0, .ref (a 0)), (1, .int x1)]) hx hb dX12_points_37 rfl hl (by decide) rfl (fun ls hl => ?_)
        refine lv_iconst (v := 0) hx hb dX12_points_38 (by decide) ?_
        refine lv_istore_n (lv' := [(3, .int 0), (2, .int 0), (0, .ref (a 0)), (1, .int x1)]) hx hb dX12_points_39 rfl hl (by decide) rfl (fun ls hl => ?_)
        exact J40 100000 x1 0 0 _ _ _ _ h hW (lv_sub hl [2, 3, 1, 0] rfl)
      · have h := ifn q10 h
        refine lv_aload_n hx hb dX12_points_30 rfl (lv_at hl 0 rfl) ?_
        refine lv_iconst (v := 3) hx hb dX12_points_31 (by decide) ?_
        obtain ⟨r11, M12, hc13, h⟩ := bd_some h
        refine cV_i (ci := 12) (q0 := 0) (rest := []) hF hW mw_X12_207 (c_X12_meets l K a hc13) ⟨Nat.le_of_ble_eq_true rfl, Nat.le_of_ble_eq_true rfl⟩ rfl rfl (pM_0 K a _) rfl hl.1 rfl (Nat.le_of_ble_eq_true rfl) dX12_points_32 ⟨Nat.le_of_ble_eq_true rfl, Nat.le_of_ble_eq_true rfl⟩ (fun _ H locs hW => ?_)
        obtain ⟨rfl, rfl⟩ := Prod.mk.inj (Option.some.inj h)
        exact rt_i hF hr hk rfl (fun _ => 0) hW rfl dX12_points_35
    · have h := ifp q8 h
      refine lv_bipush (v := (-6)) hx hb dX12_points_17 (by decide) ?_
      obtain ⟨rfl, rfl⟩ := Prod.mk.inj (Option.some.inj h)
      exact rt_i hF hr hk rfl (fun _ => 0) hW rfl dX12_points_19
  · have h := ifn q4 h
    refine lv_iconst (v := (-1)) hx hb dX12_points_8 (by decide) ?_
    obtain ⟨rfl, rfl⟩ := Prod.mk.inj (Option.some.inj h)
    exact rt_i hF hr hk rfl (fun _ => 0) hW rfl dX12_points_9
set_option maxRecDepth 100000 in
set_option maxHeartbeats 1000000 in
theorem c_X12_needs (l : Launch) (K : Kx) (a : Nat → Nat) {M M0 : Mem} {x1 : Int32} {x2 : Int32} {x3 : Int32} {r0 : Int32} (h : f_X12_needs M x1 x2 x3 = some (r0, M0)) : CMi l yX12_needs cX12_needs 7 (some .int) ({ frames := 3, cells := 0, slots := 0, locals := 69 } : Room) K [.ref (a 0), .int x1, .int x2, .int x3] (wM K a M) (fun _ => wM K a M0) r0 := by
  refine cs_i (by decide +kernel) (Nat.le_of_ble_eq_true rfl) ?_
  intro p e s m args below meth c A ls hF hr hk hnm hW hl
  have hx := hF.1
  have hb := hF.2.1
  have hl : lv_has ls 7 [(0, .ref (a 0)), (1, .int x1), (2, .int x2), (3, .int x3)] := hl
  obtain ⟨H, hH⟩ : ∃ z, z = s.heap := ⟨_, rfl⟩
  rw [← hH] at hW ⊢
  have J60 : ∀ (M : Mem) (H : Heap) (locs : List Loc) (ls : Array Slot), f_X12_needs_60 M = some (r0, M0) → Wd K A s (wM K a M) H locs → lv_has ls 7 [(0, .ref (a 0))] → W p l e ({ frames := 3, cells := 0, slots := 0, locals := 69 } : Room) s m args below meth c H locs 0 0 (EndI K A (fun _ => wM K a M0) r0 below args s ({ frames := 3, cells := 0, slots := 0, locals := 69 } : Room)) (F0 m 60 ls []) := by
    intro M H locs ls h hW hl
    unfold f_X12_needs_60 at h
    refine lv_aload_n hx hb dX12_needs_60 rfl (lv_at hl 0 rfl) ?_
    refine lv_iconst (v := 3) hx hb dX12_needs_61 (by decide) ?_
    obtain ⟨r24, M25, hc26, h⟩ := bd_some h
    refine cV_i (ci := 12) (q0 := 0) (rest := []) hF hW mw_X12_207 (c_X12_meets l K a hc26) ⟨Nat.le_of_ble_eq_true rfl, Nat.le_of_ble_eq_true rfl⟩ rfl rfl (pM_0 K a _) rfl hl.1 rfl (Nat.le_of_ble_eq_true rfl) dX12_needs_62 ⟨Nat.le_of_ble_eq_true rfl, Nat.le_of_ble_eq_true rfl⟩ (fun _ H locs hW => ?_)
    obtain ⟨rfl, rfl⟩ := Prod.mk.inj (Option.some.inj h)
    exact rt_i hF hr hk rfl (fun _ => 0) hW rfl dX12_needs_65
  have J76 : ∀ (n76 : Nat) (x1 : Int32) (x2 : Int32) (x3 : Int32) (x4 : Int32) (x5 : Int32) (M : Mem) (H : Heap) (locs : List Loc) (ls : Array Slot), f_X12_needs_76 n76 x1 x2 x3 x4 x5 M = some (r0, M0) → Wd K A s (wM K a M) H locs → lv_has ls 7 [(0, .ref (a 0)), (1, .int x1), (2, .int x2), (3, .int x3), (4, .int x4), (5, .int x5)] → W p l e ({ frames := 3, cells := 0, slots := 0, locals := 69 } : Room) s m args below meth c H locs 0 0 (EndI K A (fun _ => wM K a M0) r0 below args s ({ frames := 3, cells := 0, slots := 0, locals := 69 } : Room)) (F0 m 76 ls []) := by
    intro n76
    induction n76 with
    | zero => intro x1 x2 x3 x4 x5 M H locs ls h; exact absurd h (by simp [f_X12_needs_76])
    | succ n76 ih76 =>
      have J88 : ∀ (n88 : Nat) (x1 : Int32) (x2 : Int32) (x3 : Int32) (x4 : Int32) (x5 : Int32) (x6 : Int32) (M : Mem) (H : Heap) (locs : List Loc) (ls : Array Slot), f_X12_needs_88 (f_X12_needs_76 n76) n88 x1 x2 x3 x4 x5 x6 M = some (r0, M0) → Wd K A s (wM K a M) H locs → lv_has ls 7 [(0, .ref (a 0)), (1, .int x1), (2, .int x2), (3, .int x3), (4, .int x4), (5, .int x5), (6, .int x6)] → W p l e ({ frames := 3, cells := 0, slots := 0, locals := 69 } : Room) s m args below meth c H locs 0 0 (EndI K A (fun _ => wM K a M0) r0 below args s ({ frames := 3, cells := 0, slots := 0, locals := 69 } : Room)) (F0 m 88 ls []) := by
        intro n88
        induction n88 with
        | zero => intro x1 x2 x3 x4 x5 x6 M H locs ls h; exact absurd h (by simp [f_X12_needs_88])
        | succ n88 ih88 =>
          intro x1 x2 x3 x4 x5 x6 M H locs ls h hW hl
          rw [f_X12_needs_88] at h
          refine lv_iload hx hb dX12_needs_88 (lv_at hl 6 rfl) ?_
          refine lv_iload hx hb dX12_needs_90 (lv_at hl 5 rfl) ?_
          refine lv_icmp_ge (tgt := 145) hx hb dX12_needs_92 (by decide) (fun q28 => ?_) (fun q28 => ?_)
          · have h := ifp q28 h
            refine lv_iinc (v := (x5 + 1)) (lv' := [(5, .int (x5 + 1)), (0, .ref (a 0)), (1, .int x1), (2, .int x2), (3, .int x3), (4, .int x4), (6, .int x6)]) hx hb dX12_needs_145 hl (k := 5) rfl rfl (by decide) rfl (fun ls hl => ?_)
            refine lv_goto (tgt := 76) hx hb dX12_needs_148 (by decide) ?_
            exact ih76 x1 x2 x3 x4 (x5 + 1) _ _ _ _ h hW (lv_sub hl [1, 2, 3, 4, 5, 0] rfl)
          · have h := ifn q28 h
            refine lv_aload_n hx hb dX12_needs_95 rfl (lv_at hl 0 rfl) ?_
            refine g_X12_78 hF hW dX12_needs_96 ?_
            refine lv_iload hx hb dX12_needs_99 (lv_at hl 5 rfl) ?_
            obtain ⟨q29, h⟩ := ck_some h
            refine w_ild hF hW (pM_23 K a _) q29 dX12_needs_101 ?_
            refine lv_iload_n hx hb dX12_needs_102 rfl (lv_at hl 2 rfl) ?_
            refine lv_icmp_ne (tgt := 145) hx hb dX12_needs_103 (by decide) (fun q30 => ?_) (fun q30 => ?_)
            · have h := ifn q30 h
              refine lv_iinc (v := (x5 + 1)) (lv' := [(5, .int (x5 + 1)), (0, .ref (a 0)), (1, .int x1), (2, .int x2), (3, .int x3), (4, .int x4), (6, .int x6)]) hx hb dX12_needs_145 hl (k := 5) rfl rfl (by decide) rfl (fun ls hl => ?_)
              refine lv_goto (tgt := 76) hx hb dX12_needs_148 (by decide) ?_
              exact ih76 x1 x2 x3 x4 (x5 + 1) _ _ _ _ h hW (lv_sub hl [1, 2, 3, 4, 5, 0] rfl)
            · have h := ifp q30 h
              refine lv_iload hx hb dX12_needs_106 (lv_at hl 4 rfl) ?_
              refine lv_aload_n hx hb dX12_needs_108 rfl (lv_at hl 0 rfl) ?_
              refine g_X12_78 hF hW dX12_needs_109 ?_
              refine lv_iload hx hb dX12_needs_112 (lv_at hl 6 rfl) ?_
              obtain ⟨q31, h⟩ := ck_some h
              refine w_ild hF hW (pM_23 K a _) q31 dX12_needs_114 ?_
              refine lv_iload_n hx hb dX12_needs_115 rfl (lv_at hl 1 rfl) ?_
              refine lv_icmp_ne (tgt := 135) hx hb dX12_needs_116 (by decide) (fun q32 => ?_) (fun q32 => ?_)
              · have h := ifn q32 h
                refine lv_iconst (v := 0) hx hb dX12_needs_135 (by decide) ?_
                refine lv_iadd hx hb dX12_needs_136 ?_
                refine lv_istore (lv' := [(4, .int (x4 + 0)), (0, .ref (a 0)), (1, .int x1), (2, .int x2), (3, .int x3), (5, .int x5), (6, .int x6)]) hx hb dX12_needs_137 hl (by decide) rfl (fun ls hl => ?_)
                refine lv_iinc (v := (x6 + 1)) (lv' := [(6, .int (x6 + 1)), (4, .int (x4 + 0)), (0, .ref (a 0)), (1, .int x1), (2, .int x2), (3, .int x3), (5, .int x5)]) hx hb dX12_needs_139 hl (k := 6) rfl rfl (by decide) rfl (fun ls hl => ?_)
                refine lv_goto (tgt := 88) hx hb dX12_needs_142 (by decide) ?_
                exact ih88 x1 x2 x3 (x4 + 0) x5 (x6 + 1) _ _ _ _ h hW (lv_sub hl [2, 3, 4, 5, 1, 6, 0] rfl)
              · have h := ifp q32 h
                refine lv_aload_n hx hb dX12_needs_119 rfl (lv_at hl 0 rfl) ?_
                refine lv_iload hx hb dX12_needs_120 (lv_at hl 6 rfl) ?_
                refine lv_iload hx hb dX12_needs_122 (lv_at hl 5 rfl) ?_
                refine lv_iload_n hx hb dX12_needs_124 rfl (lv_at hl 3 rfl) ?_
                obtain ⟨r33, hc35, h⟩ := bq_some h
                refine cV_i (ci := 12) (q0 := 0) (rest := [.int x4]) hF hW mw_X12_285 (c_X12_isNeed l K a hc35) ⟨Nat.le_of_ble_eq_true rfl, Nat.le_of_ble_eq_true rfl⟩ rfl rfl (pM_0 K a _) rfl hl.1 rfl (Nat.le_of_ble_eq_true rfl) dX12_needs_125 ⟨Nat.le_of_ble_eq_true rfl, Nat.le_of_ble_eq_true rfl⟩ (fun _ H locs hW => ?_)
                refine lz_eq (tgt := 135) hx hb dX12_needs_128 (by decide) (fun q36 => ?_) (fun q36 => ?_)
                · have h := ifn q36 h
                  refine lv_iconst (v := 0) hx hb dX12_needs_135 (by decide) ?_
                  refine lv_iadd hx hb dX12_needs_136 ?_
                  refine lv_istore (lv' := [(4, .int (x4 + 0)), (0, .ref (a 0)), (1, .int x1), (2, .int x2), (3, .int x3), (5, .int x5), (6, .int x6)]) hx hb dX12_needs_137 hl (by decide) rfl (fun ls hl => ?_)
                  refine lv_iinc (v := (x6 + 1)) (lv' := [(6, .int (x6 + 1)), (4, .int (x4 + 0)), (0, .ref (a 0)), (1, .int x1), (2, .int x2), (3, .int x3), (5, .int x5)]) hx hb dX12_needs_139 hl (k := 6) rfl rfl (by decide) rfl (fun ls hl => ?_)
                  refine lv_goto (tgt := 88) hx hb dX12_needs_142 (by decide) ?_
                  exact ih88 x1 x2 x3 (x4 + 0) x5 (x6 + 1) _ _ _ _ h hW (lv_sub hl [2, 3, 4, 5, 1, 6, 0] rfl)
                · have h := ifp q36 h
                  refine lv_iconst (v := 1) hx hb dX12_needs_131 (by decide) ?_
                  refine lv_goto (tgt := 136) hx hb dX12_needs_132 (by decide) ?_
                  refine lv_iadd hx hb dX12_needs_136 ?_
                  refine lv_istore (lv' := [(4, .int (x4 + 1)), (0, .ref (a 0)), (1, .int x1), (2, .int x2), (3, .int x3), (5, .int x5), (6, .int x6)]) hx hb dX12_needs_137 hl (by decide) rfl (fun ls hl => ?_)
                  refine lv_iinc (v := (x6 + 1)) (lv' := [(6, .int (x6 + 1)), (4, .int (x4 + 1)), (0, .ref (a 0)), (1, .int x1), (2, .int x2), (3, .int x3), (5, .int x5)]) hx hb dX12_needs_139 hl (k := 6) rfl rfl (by decide) rfl (fun ls hl => ?_)
                  refine lv_goto (tgt := 88) hx hb dX12_needs_142 (by decide) ?_
                  exact ih88 x1 x2 x3 (x4 + 1) x5 (x6 + 1) _ _ _ _ h hW (lv_sub hl [2, 3, 4, 5, 1, 6, 0] rfl)
      intro x1 x2 x3 x4 x5 M H locs ls h hW hl
      rw [f_X12_needs_76] at h
      refine lv_iload hx hb dX12_needs_76 (lv_at hl 5 rfl) ?_
      refine lv_aload_n hx hb dX12_needs_78 rfl (lv_at hl 0 rfl) ?_
      refine g_X12_239 hF hW dX12_needs_79 ?_
      refine lv_icmp_ge (tgt := 151) hx hb dX12_needs_82 (by decide) (fun q27 => ?_) (fun q27 => ?_)
      · have h := ifp q27 h
        refine lv_iload hx hb dX12_needs_151 (lv_at hl 4 rfl) ?_
        obtain ⟨rfl, rfl⟩ := Prod.mk.inj (Option.some.inj h)
        exact rt_i hF hr hk rfl (fun _ => 0) hW rfl dX12_needs_153
      · have h := ifn q27 h
        refine lv_iconst (v := 0) hx hb dX12_needs_85 (by decide) ?_
        refine lv_istore (lv' := [(6, .int 0), (0, .ref (a 0)), (1, .int x1), (2, .int x2), (3, .int x3), (4, .int x4), (5, .int x5)]) hx hb dX12_needs_86 hl (by decide) rfl (fun ls hl => ?_)
        exact J88 100000 x1 x2 x3 x4 x5 0 _ _ _ _ h hW (lv_sub hl [1, 2, 3, 4, 5, 6, 0] rfl)
  unfold f_X12_needs at h
  refine lv_aload_n hx hb dX12_needs_0 rfl (lv_at hl 0 rfl) ?_
  refine lv_iload_n hx hb dX12_needs_1 rfl (lv_at hl 1 rfl) ?_
  obtain ⟨r1, hc3, h⟩ := bq_some h
  refine cV_i (ci := 12) (q0 := 0) (rest := []) hF hW mw_X12_177 (c_X12_isNode l K a hc3) ⟨Nat.le_of_ble_eq_true rfl, Nat.le_of_ble_eq_true rfl⟩ rfl rfl (pM_0 K a _) rfl hl.1 rfl (Nat.le_of_ble_eq_true rfl) dX12_needs_2 ⟨Nat.le_of_ble_eq_true rfl, Nat.le_of_ble_eq_true rfl⟩ (fun _ H locs hW => ?_)
  refine lz_eq (tgt := 28) hx hb dX12_needs_5 (by decide) (fun q4 => ?_) (fun q4 => ?_)
  · have h := ifn q4 h
    refine lv_iconst (v := (-1)) hx hb dX12_needs_28 (by decide) ?_
    obtain ⟨rfl, rfl⟩ := Prod.mk.inj (Option.some.inj h)
    exact rt_i hF hr hk rfl (fun _ => 0) hW rfl dX12_needs_29
  · have h := ifp q4 h
    refine lv_aload_n hx hb dX12_needs_8 rfl (lv_at hl 0 rfl) ?_
    refine lv_iload_n hx hb dX12_needs_9 rfl (lv_at hl 2 rfl) ?_
    obtain ⟨r5, hc7, h⟩ := bq_some h
    refine cV_i (ci := 12) (q0 := 0) (rest := []) hF hW mw_X12_177 (c_X12_isNode l K a hc7) ⟨Nat.le_of_ble_eq_true rfl, Nat.le_of_ble_eq_true rfl⟩ rfl rfl (pM_0 K a _) rfl hl.1 rfl (Nat.le_of_ble_eq_true rfl) dX12_needs_10 ⟨Nat.le_of_ble_eq_true rfl, Nat.le_of_ble_eq_true rfl⟩ (fun _ H locs hW => ?_)
    refine lz_eq (tgt := 28) hx hb dX12_needs_13 (by decide) (fun q8 => ?_) (fun q8 => ?_)
    · have h := ifn q8 h
      refine lv_iconst (v := (-1)) hx hb dX12_needs_28 (by decide) ?_
      obtain ⟨rfl, rfl⟩ := Prod.mk.inj (Option.some.inj h)
      exact rt_i hF hr hk rfl (fun _ => 0) hW rfl dX12_needs_29
    · have h := ifp q8 h
      refine lv_iload_n hx hb dX12_needs_16 rfl (lv_at hl 3 rfl) ?_
      refine lv_i2l hx hb dX12_needs_17 rfl ?_
      refine lv_lconst (v := 0) hx hb dX12_needs_18 (by decide) ?_
      refine lv_ldc2 hx hb hF.2.2.2.1 (hF.2.2.1 _ kl_X12_158) dX12_needs_19 ?_
      obtain ⟨r9, hc11, h⟩ := bq_some h
      refine cS_i (rest := []) hF hW mw_X12_154 (c_X12_in l K hc11) ⟨Nat.le_of_ble_eq_true rfl, Nat.le_of_ble_eq_true rfl⟩ rfl hl.1 rfl (Nat.le_of_ble_eq_true rfl) dX12_needs_22 ⟨Nat.le_of_ble_eq_true rfl, Nat.le_of_ble_eq_true rfl⟩ (fun _ H locs hW => ?_)
      refine lz_ne (tgt := 30) hx hb dX12_needs_25 (by decide) (fun q12 => ?_) (fun q12 => ?_)
      · have h := ifp q12 h
        refine lv_aload_n hx hb dX12_needs_30 rfl (lv_at hl 0 rfl) ?_
        obtain ⟨r13, M14, hc15, h⟩ := bd_some h
        refine cV_i (ci := 12) (q0 := 0) (rest := []) hF hW mw_X12_273 (c_X12_walk l K a hc15) ⟨Nat.le_of_ble_eq_true rfl, Nat.le_of_ble_eq_true rfl⟩ rfl rfl (pM_0 K a _) rfl hl.1 rfl (Nat.le_of_ble_eq_true rfl) dX12_needs_31 ⟨Nat.le_of_ble_eq_true rfl, Nat.le_of_ble_eq_true rfl⟩ (fun _ H locs hW => ?_)
        refine lz_eq (tgt := 40) hx hb dX12_needs_34 (by decide) (fun q16 => ?_) (fun q16 => ?_)
        · have h := ifn q16 h
          refine lv_aload_n hx hb dX12_needs_40 rfl (lv_at hl 0 rfl) ?_
          refine g_X12_26 hF hW dX12_needs_41 ?_
          refine lv_iload_n hx hb dX12_needs_44 rfl (lv_at hl 1 rfl) ?_
          obtain ⟨q17, h⟩ := ck_some h
          refine w_ild hF hW (pM_6 K a _) q17 dX12_needs_45 ?_
          refine lv_iconst (v := 3) hx hb dX12_needs_46 (by decide) ?_
          refine lv_icmp_ne (tgt := 60) hx hb dX12_needs_47 (by decide) (fun q18 => ?_) (fun q18 => ?_)
          · have h := ifn q18 h
            exact J60 _ _ _ _ h hW (lv_sub hl [0] rfl)
          · have h := ifp q18 h
            refine lv_aload_n hx hb dX12_needs_50 rfl (lv_at hl 0 rfl) ?_
            refine g_X12_26 hF hW dX12_needs_51 ?_
            refine lv_iload_n hx hb dX12_needs_54 rfl (lv_at hl 2 rfl) ?_
            obtain ⟨q19, h⟩ := ck_some h
            refine w_ild hF hW (pM_6 K a _) q19 dX12_needs_55 ?_
            refine lv_iconst (v := 3) hx hb dX12_needs_56 (by decide) ?_
            refine lv_icmp_eq (tgt := 66) hx hb dX12_needs_57 (by decide) (fun q20 => ?_) (fun q20 => ?_)
            · have h := ifp q20 h
              refine lv_aload_n hx hb dX12_needs_66 rfl (lv_at hl 0 rfl) ?_
              obtain ⟨M22, hc23, h⟩ := bm_some h
              refine cV_v (ci := 12) (q0 := 0) (rest := []) hF hW mw_X12_282 (c_X12_touchAll l K a hc23) ⟨Nat.le_of_ble_eq_true rfl, Nat.le_of_ble_eq_true rfl⟩ rfl rfl (pM_0 K a _) rfl hl.1 rfl (Nat.le_of_ble_eq_true rfl) dX12_needs_67 ⟨Nat.le_of_ble_eq_true rfl, Nat.le_of_ble_eq_true rfl⟩ (fun _ H locs hW => ?_)
              refine lv_iconst (v := 0) hx hb dX12_needs_70 (by decide) ?_
              refine lv_istore (lv' := [(4, .int 0), (0, .ref (a 0)), (1, .int x1), (2, .int x2), (3, .int x3)]) hx hb dX12_needs_71 hl (by decide) rfl (fun ls hl => ?_)
              refine lv_iconst (v := 0) hx hb dX12_needs_73 (by decide) ?_
              refine lv_istore (lv' := [(5, .int 0), (4, .int 0), (0, .ref (a 0)), (1, .int x1), (2, .int x2), (3, .int x3)]) hx hb dX12_needs_74 hl (by decide) rfl (fun ls hl => ?_)
              exact J76 100000 x1 x2 x3 0 0 _ _ _ _ h hW (lv_sub hl [2, 3, 4, 5, 1, 0] rfl)
            · have h := ifn q20 h
              exact J60 _ _ _ _ h hW (lv_sub hl [0] rfl)
        · have h := ifp q16 h
          refine lv_bipush (v := (-6)) hx hb dX12_needs_37 (by decide) ?_
          obtain ⟨rfl, rfl⟩ := Prod.mk.inj (Option.some.inj h)
          exact rt_i hF hr hk rfl (fun _ => 0) hW rfl dX12_needs_39
      · have h := ifn q12 h
        refine lv_iconst (v := (-1)) hx hb dX12_needs_28 (by decide) ?_
        obtain ⟨rfl, rfl⟩ := Prod.mk.inj (Option.some.inj h)
        exact rt_i hF hr hk rfl (fun _ => 0) hW rfl dX12_needs_29
set_option maxRecDepth 100000 in
set_option maxHeartbeats 1000000 in
theorem c_X12_carried (l : Launch) (K : Kx) (a : Nat → Nat) {M M0 : Mem} {x1 : Int32} {r0 : Int32} (h : f_X12_carried M x1 = some (r0, M0)) : CMi l yX12_carried cX12_carried 6 (some .int) ({ frames := 3, cells := 0, slots := 0, locals := 69 } : Room) K [.ref (a 0), .int x1] (wM K a M) (fun _ => wM K a M0) r0 := by
  refine cs_i (by decide +kernel) (Nat.le_of_ble_eq_true rfl) ?_
  intro p e s m args below meth c A ls hF hr hk hnm hW hl
  have hx := hF.1
  have hb := hF.2.1
  have hl : lv_has ls 6 [(0, .ref (a 0)), (1, .int x1)] := hl
  obtain ⟨H, hH⟩ : ∃ z, z = s.heap := ⟨_, rfl⟩
  rw [← hH] at hW ⊢
  have J20 : ∀ (x1 : Int32) (M : Mem) (H : Heap) (locs : List Loc) (ls : Array Slot), f_X12_carried_20 x1 M = some (r0, M0) → Wd K A s (wM K a M) H locs → lv_has ls 6 [(0, .ref (a 0)), (1, .int x1)] → W p l e ({ frames := 3, cells := 0, slots := 0, locals := 69 } : Room) s m args below meth c H locs 0 0 (EndI K A (fun _ => wM K a M0) r0 below args s ({ frames := 3, cells := 0, slots := 0, locals := 69 } : Room)) (F0 m 20 ls []) := by
    have J38 : ∀ (n38 : Nat) (x1 : Int32) (x2 : Int32) (x3 : Int32) (M : Mem) (H : Heap) (locs : List Loc) (ls : Array Slot), f_X12_carried_38 n38 x1 x2 x3 M = some (r0, M0) → Wd K A s (wM K a M) H locs → lv_has ls 6 [(0, .ref (a 0)), (1, .int x1), (2, .int x2), (3, .int x3)] → W p l e ({ frames := 3, cells := 0, slots := 0, locals := 69 } : Room) s m args below meth c H locs 0 0 (EndI K A (fun _ => wM K a M0) r0 below args s ({ frames := 3, cells := 0, slots := 0, locals := 69 } : Room)) (F0 m 38 ls []) := by
      intro n38
      induction n38 with
      | zero => intro x1 x2 x3 M H locs ls h; exact absurd h (by simp [f_X12_carried_38])
      | succ n38 ih38 =>
        have J49 : ∀ (n49 : Nat) (x1 : Int32) (x2 : Int32) (x3 : Int32) (x4 : Int32) (M : Mem) (H : Heap) (locs : List Loc) (ls : Array Slot), f_X12_carried_49 (f_X12_carried_38 n38) n49 x1 x2 x3 x4 M = some (r0, M0) → Wd K A s (wM K a M) H locs → lv_has ls 6 [(0, .ref (a 0)), (1, .int x1), (2, .int x2), (3, .int x3), (4, .int x4)] → W p l e ({ frames := 3, cells := 0, slots := 0, locals := 69 } : Room) s m args below meth c H locs 0 0 (EndI K A (fun _ => wM K a M0) r0 below args s ({ frames := 3, cells := 0, slots := 0, locals := 69 } : Room)) (F0 m 49 ls []) := by
          intro n49
          induction n49 with
          | zero => intro x1 x2 x3 x4 M H locs ls h; exact absurd h (by simp [f_X12_carried_49])
          | succ n49 ih49 =>
            have J58 : ∀ (n58 : Nat) (x1 : Int32) (x2 : Int32) (x3 : Int32) (x4 : Int32) (x5 : Int32) (M : Mem) (H : Heap) (locs : List Loc) (ls : Array Slot), f_X12_carried_58 (f_X12_carried_49 (f_X12_carried_38 n38) n49) n58 x1 x2 x3 x4 x5 M = some (r0, M0) → Wd K A s (wM K a M) H locs → lv_has ls 6 [(0, .ref (a 0)), (1, .int x1), (2, .int x2), (3, .int x3), (4, .int x4), (5, .int x5)] → W p l e ({ frames := 3, cells := 0, slots := 0, locals := 69 } : Room) s m args below meth c H locs 0 0 (EndI K A (fun _ => wM K a M0) r0 below args s ({ frames := 3, cells := 0, slots := 0, locals := 69 } : Room)) (F0 m 58 ls []) := by
              intro n58
              induction n58 with
              | zero => intro x1 x2 x3 x4 x5 M H locs ls h; exact absurd h (by simp [f_X12_carried_58])
              | succ n58 ih58 =>
                intro x1 x2 x3 x4 x5 M H locs ls h hW hl
                rw [f_X12_carried_58] at h
                refine lv_iload hx hb dX12_carried_58 (lv_at hl 5 rfl) ?_
                refine lv_iconst (v := 3) hx hb dX12_carried_60 (by decide) ?_
                refine lv_icmp_ge (tgt := 101) hx hb dX12_carried_61 (by decide) (fun q15 => ?_) (fun q15 => ?_)
                · have h := ifp q15 h
                  refine lv_iinc (v := (x4 + 1)) (lv' := [(4, .int (x4 + 1)), (0, .ref (a 0)), (1, .int x1), (2, .int x2), (3, .int x3), (5, .int x5)]) hx hb dX12_carried_101 hl (k := 4) rfl rfl (by decide) rfl (fun ls hl => ?_)
                  refine lv_goto (tgt := 49) hx hb dX12_carried_104 (by decide) ?_
                  exact ih49 x1 x2 x3 (x4 + 1) _ _ _ _ h hW (lv_sub hl [1, 2, 3, 4, 0] rfl)
                · have h := ifn q15 h
                  refine lv_iload_n hx hb dX12_carried_64 rfl (lv_at hl 2 rfl) ?_
                  refine lv_aload_n hx hb dX12_carried_65 rfl (lv_at hl 0 rfl) ?_
                  refine lv_iload hx hb dX12_carried_66 (lv_at hl 4 rfl) ?_
                  refine lv_iload_n hx hb dX12_carried_68 rfl (lv_at hl 3 rfl) ?_
                  refine lv_iload hx hb dX12_carried_69 (lv_at hl 5 rfl) ?_
                  obtain ⟨r16, hc18, h⟩ := bq_some h
                  refine cV_i (ci := 12) (q0 := 0) (rest := [.int x2]) hF hW mw_X12_285 (c_X12_isNeed l K a hc18) ⟨Nat.le_of_ble_eq_true rfl, Nat.le_of_ble_eq_true rfl⟩ rfl rfl (pM_0 K a _) rfl hl.1 rfl (Nat.le_of_ble_eq_true rfl) dX12_carried_71 ⟨Nat.le_of_ble_eq_true rfl, Nat.le_of_ble_eq_true rfl⟩ (fun _ H locs hW => ?_)
                  refine lz_eq (tgt := 92) hx hb dX12_carried_74 (by decide) (fun q19 => ?_) (fun q19 => ?_)
                  · have h := ifn q19 h
                    refine lv_iconst (v := 0) hx hb dX12_carried_92 (by decide) ?_
                    refine lv_iadd hx hb dX12_carried_93 ?_
                    refine lv_istore_n (lv' := [(2, .int (x2 + 0)), (0, .ref (a 0)), (1, .int x1), (3, .int x3), (4, .int x4), (5, .int x5)]) hx hb dX12_carried_94 rfl hl (by decide) rfl (fun ls hl => ?_)
                    refine lv_iinc (v := (x5 + 1)) (lv' := [(5, .int (x5 + 1)), (2, .int (x2 + 0)), (0, .ref (a 0)), (1, .int x1), (3, .int x3), (4, .int x4)]) hx hb dX12_carried_95 hl (k := 5) rfl rfl (by decide) rfl (fun ls hl => ?_)
                    refine lv_goto (tgt := 58) hx hb dX12_carried_98 (by decide) ?_
                    exact ih58 x1 (x2 + 0) x3 x4 (x5 + 1) _ _ _ _ h hW (lv_sub hl [2, 3, 1, 4, 5, 0] rfl)
                  · have h := ifp q19 h
                    refine lv_aload_n hx hb dX12_carried_77 rfl (lv_at hl 0 rfl) ?_
                    refine lv_iload hx hb dX12_carried_78 (lv_at hl 4 rfl) ?_
                    refine lv_iload_n hx hb dX12_carried_80 rfl (lv_at hl 3 rfl) ?_
                    obtain ⟨r20, hc22, h⟩ := bq_some h
                    refine cV_i (ci := 12) (q0 := 0) (rest := [.int x2]) hF hW mw_X12_289 (c_X12_carrier l K a hc22) ⟨Nat.le_of_ble_eq_true rfl, Nat.le_of_ble_eq_true rfl⟩ rfl rfl (pM_0 K a _) rfl hl.1 rfl (Nat.le_of_ble_eq_true rfl) dX12_carried_81 ⟨Nat.le_of_ble_eq_true rfl, Nat.le_of_ble_eq_true rfl⟩ (fun _ H locs hW => ?_)
                    refine lv_iload_n hx hb dX12_carried_84 rfl (lv_at hl 1 rfl) ?_
                    refine lv_icmp_ne (tgt := 92) hx hb dX12_carried_85 (by decide) (fun q23 => ?_) (fun q23 => ?_)
                    · have h := ifn q23 h
                      refine lv_iconst (v := 0) hx hb dX12_carried_92 (by decide) ?_
                      refine lv_iadd hx hb dX12_carried_93 ?_
                      refine lv_istore_n (lv' := [(2, .int (x2 + 0)), (0, .ref (a 0)), (1, .int x1), (3, .int x3), (4, .int x4), (5, .int x5)]) hx hb dX12_carried_94 rfl hl (by decide) rfl (fun ls hl => ?_)
                      refine lv_iinc (v := (x5 + 1)) (lv' := [(5, .int (x5 + 1)), (2, .int (x2 + 0)), (0, .ref (a 0)), (1, .int x1), (3, .int x3), (4, .int x4)]) hx hb dX12_carried_95 hl (k := 5) rfl rfl (by decide) rfl (fun ls hl => ?_)
                      refine lv_goto (tgt := 58) hx hb dX12_carried_98 (by decide) ?_
                      exact ih58 x1 (x2 + 0) x3 x4 (x5 + 1) _ _ _ _ h hW (lv_sub hl [2, 3, 1, 4, 5, 0] rfl)
                    · have h := ifp q23 h
                      refine lv_iconst (v := 1) hx hb dX12_carried_88 (by decide) ?_
                      refine lv_goto (tgt := 93) hx hb dX12_carried_89 (by decide) ?_
                      refine lv_iadd hx hb dX12_carried_93 ?_
                      refine lv_istore_n (lv' := [(2, .int (x2 + 1)), (0, .ref (a 0)), (1, .int x1), (3, .int x3), (4, .int x4), (5, .int x5)]) hx hb dX12_carried_94 rfl hl (by decide) rfl (fun ls hl => ?_)
                      refine lv_iinc (v := (x5 + 1)) (lv' := [(5, .int (x5 + 1)), (2, .int (x2 + 1)), (0, .ref (a 0)), (1, .int x1), (3, .int x3), (4, .int x4)]) hx hb dX12_carried_95 hl (k := 5) rfl rfl (by decide) rfl (fun ls hl => ?_)
                      refine lv_goto (tgt := 58) hx hb dX12_carried_98 (by decide) ?_
                      exact ih58 x1 (x2 + 1) x3 x4 (x5 + 1) _ _ _ _ h hW (lv_sub hl [2, 3, 1, 4, 5, 0] rfl)
            intro x1 x2 x3 x4 M H locs ls h hW hl
            rw [f_X12_carried_49] at h
            refine lv_iload hx hb dX12_carried_49 (lv_at hl 4 rfl) ?_
            refine lv_iload_n hx hb dX12_carried_51 rfl (lv_at hl 3 rfl) ?_
            refine lv_icmp_ge (tgt := 107) hx hb dX12_carried_52 (by decide) (fun q14 => ?_) (fun q14 => ?_)
            · have h := ifp q14 h
              refine lv_iinc (v := (x3 + 1)) (lv' := [(3, .int (x3 + 1)), (0, .ref (a 0)), (1, .int x1), (2, .int x2), (4, .int x4)]) hx hb dX12_carried_107 hl (k := 3) rfl rfl (by decide) rfl (fun ls hl => ?_)
              refine lv_goto (tgt := 38) hx hb dX12_carried_110 (by decide) ?_
              exact ih38 x1 x2 (x3 + 1) _ _ _ _ h hW (lv_sub hl [1, 2, 3, 0] rfl)
            · have h := ifn q14 h
              refine lv_iconst (v := 0) hx hb dX12_carried_55 (by decide) ?_
              refine lv_istore (lv' := [(5, .int 0), (0, .ref (a 0)), (1, .int x1), (2, .int x2), (3, .int x3), (4, .int x4)]) hx hb dX12_carried_56 hl (by decide) rfl (fun ls hl => ?_)
              exact J58 100000 x1 x2 x3 x4 0 _ _ _ _ h hW (lv_sub hl [1, 2, 3, 4, 5, 0] rfl)
        intro x1 x2 x3 M H locs ls h hW hl
        rw [f_X12_carried_38] at h
        refine lv_iload_n hx hb dX12_carried_38 rfl (lv_at hl 3 rfl) ?_
        refine lv_aload_n hx hb dX12_carried_39 rfl (lv_at hl 0 rfl) ?_
        refine g_X12_239 hF hW dX12_carried_40 ?_
        refine lv_icmp_ge (tgt := 113) hx hb dX12_carried_43 (by decide) (fun q13 => ?_) (fun q13 => ?_)
        · have h := ifp q13 h
          refine lv_iload_n hx hb dX12_carried_113 rfl (lv_at hl 2 rfl) ?_
          obtain ⟨rfl, rfl⟩ := Prod.mk.inj (Option.some.inj h)
          exact rt_i hF hr hk rfl (fun _ => 0) hW rfl dX12_carried_114
        · have h := ifn q13 h
          refine lv_iconst (v := 0) hx hb dX12_carried_46 (by decide) ?_
          refine lv_istore (lv' := [(4, .int 0), (0, .ref (a 0)), (1, .int x1), (2, .int x2), (3, .int x3)]) hx hb dX12_carried_47 hl (by decide) rfl (fun ls hl => ?_)
          exact J49 100000 x1 x2 x3 0 _ _ _ _ h hW (lv_sub hl [1, 2, 3, 4, 0] rfl)
    intro x1 M H locs ls h hW hl
    unfold f_X12_carried_20 at h
    refine lv_aload_n hx hb dX12_carried_20 rfl (lv_at hl 0 rfl) ?_
    obtain ⟨r6, M7, hc8, h⟩ := bd_some h
    refine cV_i (ci := 12) (q0 := 0) (rest := []) hF hW mw_X12_273 (c_X12_walk l K a hc8) ⟨Nat.le_of_ble_eq_true rfl, Nat.le_of_ble_eq_true rfl⟩ rfl rfl (pM_0 K a _) rfl hl.1 rfl (Nat.le_of_ble_eq_true rfl) dX12_carried_21 ⟨Nat.le_of_ble_eq_true rfl, Nat.le_of_ble_eq_true rfl⟩ (fun _ H locs hW => ?_)
    refine lz_eq (tgt := 30) hx hb dX12_carried_24 (by decide) (fun q9 => ?_) (fun q9 => ?_)
    · have h := ifn q9 h
      refine lv_aload_n hx hb dX12_carried_30 rfl (lv_at hl 0 rfl) ?_
      obtain ⟨M11, hc12, h⟩ := bm_some h
      refine cV_v (ci := 12) (q0 := 0) (rest := []) hF hW mw_X12_282 (c_X12_touchAll l K a hc12) ⟨Nat.le_of_ble_eq_true rfl, Nat.le_of_ble_eq_true rfl⟩ rfl rfl (pM_0 K a _) rfl hl.1 rfl (Nat.le_of_ble_eq_true rfl) dX12_carried_31 ⟨Nat.le_of_ble_eq_true rfl, Nat.le_of_ble_eq_true rfl⟩ (fun _ H locs hW => ?_)
      refine lv_iconst (v := 0) hx hb dX12_carried_34 (by decide) ?_
      refine lv_istore_n (lv' := [(2, .int 0), (0, .ref (a 0)), (1, .int x1)]) hx hb dX12_carried_35 rfl hl (by decide) rfl (fun ls hl => ?_)
      refine lv_iconst (v := 0) hx hb dX12_carried_36 (by decide) ?_
      refine lv_istore_n (lv' := [(3, .int 0), (2, .int 0), (0, .ref (a 0)), (1, .int x1)]) hx hb dX12_carried_37 rfl hl (by decide) rfl (fun ls hl => ?_)
      exact J38 100000 x1 0 0 _ _ _ _ h hW (lv_sub hl [2, 3, 1, 0] rfl)
    · have h := ifp q9 h
      refine lv_bipush (v := (-6)) hx hb dX12_carried_27 (by decide) ?_
      obtain ⟨rfl, rfl⟩ := Prod.mk.inj (Option.some.inj h)
      exact rt_i hF hr hk rfl (fun _ => 0) hW rfl dX12_carried_29
  unfold f_X12_carried at h
  refine lv_iload_n hx hb dX12_carried_0 rfl (lv_at hl 1 rfl) ?_
  refine lv_i2l hx hb dX12_carried_1 rfl ?_
  refine lv_lconst (v := 0) hx hb dX12_carried_2 (by decide) ?_
  refine lv_ldc2 hx hb hF.2.2.2.1 (hF.2.2.1 _ kl_X12_212) dX12_carried_3 ?_
  obtain ⟨r1, hc3, h⟩ := bq_some h
  refine cS_i (rest := []) hF hW mw_X12_154 (c_X12_in l K hc3) ⟨Nat.le_of_ble_eq_true rfl, Nat.le_of_ble_eq_true rfl⟩ rfl hl.1 rfl (Nat.le_of_ble_eq_true rfl) dX12_carried_6 ⟨Nat.le_of_ble_eq_true rfl, Nat.le_of_ble_eq_true rfl⟩ (fun _ H locs hW => ?_)
  refine lz_ne (tgt := 20) hx hb dX12_carried_9 (by decide) (fun q4 => ?_) (fun q4 => ?_)
  · have h := ifp q4 h
    exact J20 x1 _ _ _ _ h hW (lv_sub hl [0, 1] rfl)
  · have h := ifn q4 h
    refine lv_iload_n hx hb dX12_carried_12 rfl (lv_at hl 1 rfl) ?_
    refine lv_bipush (v := (-9)) hx hb dX12_carried_13 (by decide) ?_
    refine lv_icmp_eq (tgt := 20) hx hb dX12_carried_15 (by decide) (fun q5 => ?_) (fun q5 => ?_)
    · have h := ifp q5 h
      exact J20 x1 _ _ _ _ h hW (lv_sub hl [0, 1] rfl)
    · have h := ifn q5 h
      refine lv_iconst (v := (-1)) hx hb dX12_carried_18 (by decide) ?_
      obtain ⟨rfl, rfl⟩ := Prod.mk.inj (Option.some.inj h)
      exact rt_i hF hr hk rfl (fun _ => 0) hW rfl dX12_carried_19
set_option maxRecDepth 100000 in
set_option maxHeartbeats 1000000 in
theorem c_X12_distance (l : Launch) (K : Kx) (a : Nat → Nat) {M M0 : Mem} {x1 : Int32} {x2 : Int32} {x3 : Int32} {x4 : Bool} {r0 : Int32} (h : f_X12_distance M x1 x2 x3 x4 = some (r0, M0)) : CMi l yX12_distance cX12_distance 13 (some .int) ({ frames := 3, cells := 0, slots := 0, locals := 69 } : Room) K [.ref (a 0), .int x1, .int x2, .int x3, .int (bI x4)] (wM K a M) (fun _ => wM K a M0) r0 := by
  refine cs_i (by decide +kernel) (Nat.le_of_ble_eq_true rfl) ?_
  intro p e s m args below meth c A ls hF hr hk hnm hW hl
  have hx := hF.1
  have hb := hF.2.1
  have hl : lv_has ls 13 [(0, .ref (a 0)), (1, .int x1), (2, .int x2), (3, .int x3), (4, .int (bI x4))] := hl
  obtain ⟨H, hH⟩ : ∃ z, z = s.heap := ⟨_, rfl⟩
  rw [← hH] at hW ⊢
  have J60 : ∀ (M : Mem) (H : Heap) (locs : List Loc) (ls : Array Slot), f_X12_distance_60 M = some (r0, M0) → Wd K A s (wM K a M) H locs → lv_has ls 13 [(0, .ref (a 0))] → W p l e ({ frames := 3, cells := 0, slots := 0, locals := 69 } : Room) s m args below meth c H locs 0 0 (EndI K A (fun _ => wM K a M0) r0 below args s ({ frames := 3, cells := 0, slots := 0, locals := 69 } : Room)) (F0 m 60 ls []) := by
    intro M H locs ls h hW hl
    unfold f_X12_distance_60 at h
    refine lv_aload_n hx hb dX12_distance_60 rfl (lv_at hl 0 rfl) ?_
    refine lv_iconst (v := 3) hx hb dX12_distance_61 (by decide) ?_
    obtain ⟨r35, M36, hc37, h⟩ := bd_some h
    refine cV_i (ci := 12) (q0 := 0) (rest := []) hF hW mw_X12_207 (c_X12_meets l K a hc37) ⟨Nat.le_of_ble_eq_true rfl, Nat.le_of_ble_eq_true rfl⟩ rfl rfl (pM_0 K a _) rfl hl.1 rfl (Nat.le_of_ble_eq_true rfl) dX12_distance_62 ⟨Nat.le_of_ble_eq_true rfl, Nat.le_of_ble_eq_true rfl⟩ (fun _ H locs hW => ?_)
    obtain ⟨rfl, rfl⟩ := Prod.mk.inj (Option.some.inj h)
    exact rt_i hF hr hk rfl (fun _ => 0) hW rfl dX12_distance_65
  have J107 : ∀ (n107 : Nat) (x1 : Int32) (x2 : Int32) (x3 : Int32) (x4 : Bool) (x5 : Bool) (x6 : Int64) (x8 : Int32) (M : Mem) (H : Heap) (locs : List Loc) (ls : Array Slot), f_X12_distance_107 n107 x1 x2 x3 x4 x5 x6 x8 M = some (r0, M0) → Wd K A s (wM K a M) H locs → lv_has ls 13 [(0, .ref (a 0)), (1, .int x1), (2, .int x2), (3, .int x3), (4, .int (bI x4)), (5, .int (bI x5)), (6, .long x6), (8, .int x8)] → W p l e ({ frames := 3, cells := 0, slots := 0, locals := 69 } : Room) s m args below meth c H locs 0 0 (EndI K A (fun _ => wM K a M0) r0 below args s ({ frames := 3, cells := 0, slots := 0, locals := 69 } : Room)) (F0 m 107 ls []) := by
    intro n107
    induction n107 with
    | zero => intro x1 x2 x3 x4 x5 x6 x8 M H locs ls h; exact absurd h (by simp [f_X12_distance_107])
    | succ n107 ih107 =>
      have J119 : ∀ (n119 : Nat) (x1 : Int32) (x2 : Int32) (x3 : Int32) (x4 : Bool) (x5 : Bool) (x6 : Int64) (x8 : Int32) (x9 : Int32) (M : Mem) (H : Heap) (locs : List Loc) (ls : Array Slot), f_X12_distance_119 (f_X12_distance_107 n107) n119 x1 x2 x3 x4 x5 x6 x8 x9 M = some (r0, M0) → Wd K A s (wM K a M) H locs → lv_has ls 13 [(0, .ref (a 0)), (1, .int x1), (2, .int x2), (3, .int x3), (4, .int (bI x4)), (5, .int (bI x5)), (6, .long x6), (8, .int x8), (9, .int x9)] → W p l e ({ frames := 3, cells := 0, slots := 0, locals := 69 } : Room) s m args below meth c H locs 0 0 (EndI K A (fun _ => wM K a M0) r0 below args s ({ frames := 3, cells := 0, slots := 0, locals := 69 } : Room)) (F0 m 119 ls []) := by
        intro n119
        induction n119 with
        | zero => intro x1 x2 x3 x4 x5 x6 x8 x9 M H locs ls h; exact absurd h (by simp [f_X12_distance_119])
        | succ n119 ih119 =>
          have J189 : ∀ (x1 : Int32) (x2 : Int32) (x3 : Int32) (x4 : Bool) (x5 : Bool) (x6 : Int64) (x8 : Int32) (x9 : Int32) (s0 : Bool) (M : Mem) (H : Heap) (locs : List Loc) (ls : Array Slot), f_X12_distance_189 (f_X12_distance_119 (f_X12_distance_107 n107) n119) x1 x2 x3 x4 x5 x6 x8 x9 s0 M = some (r0, M0) → Wd K A s (wM K a M) H locs → lv_has ls 13 [(0, .ref (a 0)), (1, .int x1), (2, .int x2), (3, .int x3), (4, .int (bI x4)), (5, .int (bI x5)), (6, .long x6), (8, .int x8), (9, .int x9)] → W p l e ({ frames := 3, cells := 0, slots := 0, locals := 69 } : Room) s m args below meth c H locs 0 0 (EndI K A (fun _ => wM K a M0) r0 below args s ({ frames := 3, cells := 0, slots := 0, locals := 69 } : Room)) (F0 m 189 ls [.int (bI s0)]) := by
            intro x1 x2 x3 x4 x5 x6 x8 x9 s0 M H locs ls h hW hl
            unfold f_X12_distance_189 at h
            refine lv_istore (lv' := [(10, .int (bI s0)), (0, .ref (a 0)), (1, .int x1), (2, .int x2), (3, .int x3), (4, .int (bI x4)), (5, .int (bI x5)), (6, .long x6), (8, .int x8), (9, .int x9)]) hx hb dX12_distance_189 hl (by decide) rfl (fun ls hl => ?_)
            refine lv_aload_n hx hb dX12_distance_191 rfl (lv_at hl 1 rfl) ?_
            refine g_X12_81 hF hW dX12_distance_192 ?_
            refine lv_iconst (v := 4) hx hb dX12_distance_195 (by decide) ?_
            refine lv_iload hx hb dX12_distance_196 (lv_at hl 8 rfl) ?_
            refine lv_imul hx hb dX12_distance_198 ?_
            refine lv_iload_n hx hb dX12_distance_199 rfl (lv_at hl 4 rfl) ?_
            refine lv_iadd hx hb dX12_distance_200 ?_
            obtain ⟨q57, h⟩ := ck_some h
            refine w_lld hF hW (pM_24 K a _) q57 dX12_distance_201 ?_
            refine lv_aload_n hx hb dX12_distance_202 rfl (lv_at hl 1 rfl) ?_
            refine g_X12_81 hF hW dX12_distance_203 ?_
            refine lv_iconst (v := 4) hx hb dX12_distance_206 (by decide) ?_
            refine lv_iload hx hb dX12_distance_207 (lv_at hl 9 rfl) ?_
            refine lv_imul hx hb dX12_distance_209 ?_
            refine lv_iload_n hx hb dX12_distance_210 rfl (lv_at hl 4 rfl) ?_
            refine lv_iadd hx hb dX12_distance_211 ?_
            obtain ⟨q58, h⟩ := ck_some h
            refine w_lld hF hW (pM_24 K a _) q58 dX12_distance_212 ?_
            refine lv_lsub hx hb dX12_distance_213 ?_
            refine lv_lstore (lv' := [(11, .long ((M.2.1 24 ((4 * x8) + x3).toNatClampNeg) - (M.2.1 24 ((4 * x9) + x3).toNatClampNeg))), (10, .int (bI s0)), (0, .ref (a 0)), (1, .int x1), (2, .int x2), (3, .int x3), (4, .int (bI x4)), (5, .int (bI x5)), (6, .long x6), (8, .int x8), (9, .int x9)]) hx hb dX12_distance_214 hl (by decide) rfl (fun ls hl => ?_)
            refine lv_iload hx hb dX12_distance_216 (lv_at hl 1 rfl) ?_
            refine lz_eq (tgt := 257) hx hb dX12_distance_218 (by decide) (fun q59 => ?_) (fun q59 => ?_)
            · have h := ifn q59 h
              refine lv_iinc (v := (x9 + 1)) (lv' := [(9, .int (x9 + 1)), (11, .long ((M.2.1 24 ((4 * x8) + x3).toNatClampNeg) - (M.2.1 24 ((4 * x9) + x3).toNatClampNeg))), (10, .int (bI s0)), (0, .ref (a 0)), (1, .int x1), (2, .int x2), (3, .int x3), (4, .int (bI x4)), (5, .int (bI x5)), (6, .long x6), (8, .int x8)]) hx hb dX12_distance_257 hl (k := 10) rfl rfl (by decide) rfl (fun ls hl => ?_)
              refine lv_goto (tgt := 119) hx hb dX12_distance_260 (by decide) ?_
              exact ih119 x1 x2 x3 x4 x5 x6 x8 (x9 + 1) _ _ _ _ h hW (lv_sub hl [3, 4, 5, 6, 7, 8, 9, 10, 0] rfl)
            · have h := ifp q59 h
              refine lv_iload hx hb dX12_distance_221 (lv_at hl 7 rfl) ?_
              refine lz_eq (tgt := 250) hx hb dX12_distance_223 (by decide) (fun q60 => ?_) (fun q60 => ?_)
              · have h := ifn q60 h
                refine lv_lload hx hb dX12_distance_250 (lv_at hl 0 rfl) ?_
                refine lv_lstore (lv' := [(6, .long ((M.2.1 24 ((4 * x8) + x3).toNatClampNeg) - (M.2.1 24 ((4 * x9) + x3).toNatClampNeg))), (11, .long ((M.2.1 24 ((4 * x8) + x3).toNatClampNeg) - (M.2.1 24 ((4 * x9) + x3).toNatClampNeg))), (10, .int (bI s0)), (0, .ref (a 0)), (1, .int x1), (2, .int x2), (3, .int x3), (4, .int (bI x4)), (5, .int (bI x5)), (8, .int x8), (9, .int x9)]) hx hb dX12_distance_252 hl (by decide) rfl (fun ls hl => ?_)
                refine lv_iconst (v := 1) hx hb dX12_distance_254 (by decide) ?_
                refine lv_istore (lv' := [(5, .int 1), (6, .long ((M.2.1 24 ((4 * x8) + x3).toNatClampNeg) - (M.2.1 24 ((4 * x9) + x3).toNatClampNeg))), (11, .long ((M.2.1 24 ((4 * x8) + x3).toNatClampNeg) - (M.2.1 24 ((4 * x9) + x3).toNatClampNeg))), (10, .int (bI s0)), (0, .ref (a 0)), (1, .int x1), (2, .int x2), (3, .int x3), (4, .int (bI x4)), (8, .int x8), (9, .int x9)]) hx hb dX12_distance_255 hl (by decide) rfl (fun ls hl => ?_)
                refine lv_iinc (v := (x9 + 1)) (lv' := [(9, .int (x9 + 1)), (5, .int 1), (6, .long ((M.2.1 24 ((4 * x8) + x3).toNatClampNeg) - (M.2.1 24 ((4 * x9) + x3).toNatClampNeg))), (11, .long ((M.2.1 24 ((4 * x8) + x3).toNatClampNeg) - (M.2.1 24 ((4 * x9) + x3).toNatClampNeg))), (10, .int (bI s0)), (0, .ref (a 0)), (1, .int x1), (2, .int x2), (3, .int x3), (4, .int (bI x4)), (8, .int x8)]) hx hb dX12_distance_257 hl (k := 10) rfl rfl (by decide) rfl (fun ls hl => ?_)
                refine lv_goto (tgt := 119) hx hb dX12_distance_260 (by decide) ?_
                exact ih119 x1 x2 x3 x4 true ((M.2.1 24 ((4 * x8) + x3).toNatClampNeg) - (M.2.1 24 ((4 * x9) + x3).toNatClampNeg)) x8 (x9 + 1) _ _ _ _ h hW (lv_sub hl [5, 6, 7, 8, 9, 1, 2, 10, 0] rfl)
              · have h := ifp q60 h
                refine lv_iload hx hb dX12_distance_226 (lv_at hl 6 rfl) ?_
                refine lz_eq (tgt := 242) hx hb dX12_distance_228 (by decide) (fun q61 => ?_) (fun q61 => ?_)
                · have h := ifn q61 h
                  refine lv_lload hx hb dX12_distance_242 (lv_at hl 0 rfl) ?_
                  refine lv_lload hx hb dX12_distance_244 (lv_at hl 8 rfl) ?_
                  refine ll_ge (tgt := 257) hx hb dX12_distance_246 dX12_distance_247 (by decide) (fun q62 => ?_) (fun q62 => ?_)
                  · have h := ifp q62 h
                    refine lv_iinc (v := (x9 + 1)) (lv' := [(9, .int (x9 + 1)), (11, .long ((M.2.1 24 ((4 * x8) + x3).toNatClampNeg) - (M.2.1 24 ((4 * x9) + x3).toNatClampNeg))), (10, .int (bI s0)), (0, .ref (a 0)), (1, .int x1), (2, .int x2), (3, .int x3), (4, .int (bI x4)), (5, .int (bI x5)), (6, .long x6), (8, .int x8)]) hx hb dX12_distance_257 hl (k := 10) rfl rfl (by decide) rfl (fun ls hl => ?_)
                    refine lv_goto (tgt := 119) hx hb dX12_distance_260 (by decide) ?_
                    exact ih119 x1 x2 x3 x4 x5 x6 x8 (x9 + 1) _ _ _ _ h hW (lv_sub hl [3, 4, 5, 6, 7, 8, 9, 10, 0] rfl)
                  · have h := ifn q62 h
                    refine lv_lload hx hb dX12_distance_250 (lv_at hl 0 rfl) ?_
                    refine lv_lstore (lv' := [(6, .long ((M.2.1 24 ((4 * x8) + x3).toNatClampNeg) - (M.2.1 24 ((4 * x9) + x3).toNatClampNeg))), (11, .long ((M.2.1 24 ((4 * x8) + x3).toNatClampNeg) - (M.2.1 24 ((4 * x9) + x3).toNatClampNeg))), (10, .int (bI s0)), (0, .ref (a 0)), (1, .int x1), (2, .int x2), (3, .int x3), (4, .int (bI x4)), (5, .int (bI x5)), (8, .int x8), (9, .int x9)]) hx hb dX12_distance_252 hl (by decide) rfl (fun ls hl => ?_)
                    refine lv_iconst (v := 1) hx hb dX12_distance_254 (by decide) ?_
                    refine lv_istore (lv' := [(5, .int 1), (6, .long ((M.2.1 24 ((4 * x8) + x3).toNatClampNeg) - (M.2.1 24 ((4 * x9) + x3).toNatClampNeg))), (11, .long ((M.2.1 24 ((4 * x8) + x3).toNatClampNeg) - (M.2.1 24 ((4 * x9) + x3).toNatClampNeg))), (10, .int (bI s0)), (0, .ref (a 0)), (1, .int x1), (2, .int x2), (3, .int x3), (4, .int (bI x4)), (8, .int x8), (9, .int x9)]) hx hb dX12_distance_255 hl (by decide) rfl (fun ls hl => ?_)
                    refine lv_iinc (v := (x9 + 1)) (lv' := [(9, .int (x9 + 1)), (5, .int 1), (6, .long ((M.2.1 24 ((4 * x8) + x3).toNatClampNeg) - (M.2.1 24 ((4 * x9) + x3).toNatClampNeg))), (11, .long ((M.2.1 24 ((4 * x8) + x3).toNatClampNeg) - (M.2.1 24 ((4 * x9) + x3).toNatClampNeg))), (10, .int (bI s0)), (0, .ref (a 0)), (1, .int x1), (2, .int x2), (3, .int x3), (4, .int (bI x4)), (8, .int x8)]) hx hb dX12_distance_257 hl (k := 10) rfl rfl (by decide) rfl (fun ls hl => ?_)
                    refine lv_goto (tgt := 119) hx hb dX12_distance_260 (by decide) ?_
                    exact ih119 x1 x2 x3 x4 true ((M.2.1 24 ((4 * x8) + x3).toNatClampNeg) - (M.2.1 24 ((4 * x9) + x3).toNatClampNeg)) x8 (x9 + 1) _ _ _ _ h hW (lv_sub hl [5, 6, 7, 8, 9, 1, 2, 10, 0] rfl)
                · have h := ifp q61 h
                  refine lv_lload hx hb dX12_distance_231 (lv_at hl 0 rfl) ?_
                  refine lv_lload hx hb dX12_distance_233 (lv_at hl 8 rfl) ?_
                  refine ll_le (tgt := 257) hx hb dX12_distance_235 dX12_distance_236 (by decide) (fun q63 => ?_) (fun q63 => ?_)
                  · have h := ifp q63 h
                    refine lv_iinc (v := (x9 + 1)) (lv' := [(9, .int (x9 + 1)), (11, .long ((M.2.1 24 ((4 * x8) + x3).toNatClampNeg) - (M.2.1 24 ((4 * x9) + x3).toNatClampNeg))), (10, .int (bI s0)), (0, .ref (a 0)), (1, .int x1), (2, .int x2), (3, .int x3), (4, .int (bI x4)), (5, .int (bI x5)), (6, .long x6), (8, .int x8)]) hx hb dX12_distance_257 hl (k := 10) rfl rfl (by decide) rfl (fun ls hl => ?_)
                    refine lv_goto (tgt := 119) hx hb dX12_distance_260 (by decide) ?_
                    exact ih119 x1 x2 x3 x4 x5 x6 x8 (x9 + 1) _ _ _ _ h hW (lv_sub hl [3, 4, 5, 6, 7, 8, 9, 10, 0] rfl)
                  · have h := ifn q63 h
                    refine lv_goto (tgt := 250) hx hb dX12_distance_239 (by decide) ?_
                    refine lv_lload hx hb dX12_distance_250 (lv_at hl 0 rfl) ?_
                    refine lv_lstore (lv' := [(6, .long ((M.2.1 24 ((4 * x8) + x3).toNatClampNeg) - (M.2.1 24 ((4 * x9) + x3).toNatClampNeg))), (11, .long ((M.2.1 24 ((4 * x8) + x3).toNatClampNeg) - (M.2.1 24 ((4 * x9) + x3).toNatClampNeg))), (10, .int (bI s0)), (0, .ref (a 0)), (1, .int x1), (2, .int x2), (3, .int x3), (4, .int (bI x4)), (5, .int (bI x5)), (8, .int x8), (9, .int x9)]) hx hb dX12_distance_252 hl (by decide) rfl (fun ls hl => ?_)
                    refine lv_iconst (v := 1) hx hb dX12_distance_254 (by decide) ?_
                    refine lv_istore (lv' := [(5, .int 1), (6, .long ((M.2.1 24 ((4 * x8) + x3).toNatClampNeg) - (M.2.1 24 ((4 * x9) + x3).toNatClampNeg))), (11, .long ((M.2.1 24 ((4 * x8) + x3).toNatClampNeg) - (M.2.1 24 ((4 * x9) + x3).toNatClampNeg))), (10, .int (bI s0)), (0, .ref (a 0)), (1, .int x1), (2, .int x2), (3, .int x3), (4, .int (bI x4)), (8, .int x8), (9, .int x9)]) hx hb dX12_distance_255 hl (by decide) rfl (fun ls hl => ?_)
                    refine lv_iinc (v := (x9 + 1)) (lv' := [(9, .int (x9 + 1)), (5, .int 1), (6, .long ((M.2.1 24 ((4 * x8) + x3).toNatClampNeg) - (M.2.1 24 ((4 * x9) + x3).toNatClampNeg))), (11, .long ((M.2.1 24 ((4 * x8) + x3).toNatClampNeg) - (M.2.1 24 ((4 * x9) + x3).toNatClampNeg))), (10, .int (bI s0)), (0, .ref (a 0)), (1, .int x1), (2, .int x2), (3, .int x3), (4, .int (bI x4)), (8, .int x8)]) hx hb dX12_distance_257 hl (k := 10) rfl rfl (by decide) rfl (fun ls hl => ?_)
                    refine lv_goto (tgt := 119) hx hb dX12_distance_260 (by decide) ?_
                    exact ih119 x1 x2 x3 x4 true ((M.2.1 24 ((4 * x8) + x3).toNatClampNeg) - (M.2.1 24 ((4 * x9) + x3).toNatClampNeg)) x8 (x9 + 1) _ _ _ _ h hW (lv_sub hl [5, 6, 7, 8, 9, 1, 2, 10, 0] rfl)
          have J184 : ∀ (x1 : Int32) (x2 : Int32) (x3 : Int32) (x4 : Bool) (x5 : Bool) (x6 : Int64) (x8 : Int32) (x9 : Int32) (M : Mem) (H : Heap) (locs : List Loc) (ls : Array Slot), f_X12_distance_184 (f_X12_distance_189 (f_X12_distance_119 (f_X12_distance_107 n107) n119)) x1 x2 x3 x4 x5 x6 x8 x9 M = some (r0, M0) → Wd K A s (wM K a M) H locs → lv_has ls 13 [(0, .ref (a 0)), (1, .int x1), (2, .int x2), (3, .int x3), (4, .int (bI x4)), (5, .int (bI x5)), (6, .long x6), (8, .int x8), (9, .int x9)] → W p l e ({ frames := 3, cells := 0, slots := 0, locals := 69 } : Room) s m args below meth c H locs 0 0 (EndI K A (fun _ => wM K a M0) r0 below args s ({ frames := 3, cells := 0, slots := 0, locals := 69 } : Room)) (F0 m 184 ls []) := by
            intro x1 x2 x3 x4 x5 x6 x8 x9 M H locs ls h hW hl
            unfold f_X12_distance_184 at h
            refine lv_iconst (v := 1) hx hb dX12_distance_184 (by decide) ?_
            refine lv_goto (tgt := 189) hx hb dX12_distance_185 (by decide) ?_
            exact J189 x1 x2 x3 x4 x5 x6 x8 x9 true _ _ _ _ h hW (lv_sub hl [0, 1, 2, 3, 4, 5, 6, 7, 8] rfl)
          have J188 : ∀ (x1 : Int32) (x2 : Int32) (x3 : Int32) (x4 : Bool) (x5 : Bool) (x6 : Int64) (x8 : Int32) (x9 : Int32) (M : Mem) (H : Heap) (locs : List Loc) (ls : Array Slot), f_X12_distance_188 (f_X12_distance_189 (f_X12_distance_119 (f_X12_distance_107 n107) n119)) x1 x2 x3 x4 x5 x6 x8 x9 M = some (r0, M0) → Wd K A s (wM K a M) H locs → lv_has ls 13 [(0, .ref (a 0)), (1, .int x1), (2, .int x2), (3, .int x3), (4, .int (bI x4)), (5, .int (bI x5)), (6, .long x6), (8, .int x8), (9, .int x9)] → W p l e ({ frames := 3, cells := 0, slots := 0, locals := 69 } : Room) s m args below meth c H locs 0 0 (EndI K A (fun _ => wM K a M0) r0 below args s ({ frames := 3, cells := 0, slots := 0, locals := 69 } : Room)) (F0 m 188 ls []) := by
            intro x1 x2 x3 x4 x5 x6 x8 x9 M H locs ls h hW hl
            unfold f_X12_distance_188 at h
            refine lv_iconst (v := 0) hx hb dX12_distance_188 (by decide) ?_
            exact J189 x1 x2 x3 x4 x5 x6 x8 x9 false _ _ _ _ h hW (lv_sub hl [0, 1, 2, 3, 4, 5, 6, 7, 8] rfl)
          intro x1 x2 x3 x4 x5 x6 x8 x9 M H locs ls h hW hl
          rw [f_X12_distance_119] at h
          refine lv_iload hx hb dX12_distance_119 (lv_at hl 8 rfl) ?_
          refine lv_iload hx hb dX12_distance_121 (lv_at hl 7 rfl) ?_
          refine lv_icmp_ge (tgt := 263) hx hb dX12_distance_123 (by decide) (fun q40 => ?_) (fun q40 => ?_)
          · have h := ifp q40 h
            refine lv_iinc (v := (x8 + 1)) (lv' := [(8, .int (x8 + 1)), (0, .ref (a 0)), (1, .int x1), (2, .int x2), (3, .int x3), (4, .int (bI x4)), (5, .int (bI x5)), (6, .long x6), (9, .int x9)]) hx hb dX12_distance_263 hl (k := 7) rfl rfl (by decide) rfl (fun ls hl => ?_)
            refine lv_goto (tgt := 107) hx hb dX12_distance_266 (by decide) ?_
            exact ih107 x1 x2 x3 x4 x5 x6 (x8 + 1) _ _ _ _ h hW (lv_sub hl [1, 2, 3, 4, 5, 6, 7, 0] rfl)
          · have h := ifn q40 h
            refine lv_aload_n hx hb dX12_distance_126 rfl (lv_at hl 0 rfl) ?_
            refine g_X12_78 hF hW dX12_distance_127 ?_
            refine lv_iload hx hb dX12_distance_130 (lv_at hl 7 rfl) ?_
            obtain ⟨q41, h⟩ := ck_some h
            refine w_ild hF hW (pM_23 K a _) q41 dX12_distance_132 ?_
            refine lv_iload_n hx hb dX12_distance_133 rfl (lv_at hl 2 rfl) ?_
            refine lv_icmp_ne (tgt := 263) hx hb dX12_distance_134 (by decide) (fun q42 => ?_) (fun q42 => ?_)
            · have h := ifn q42 h
              refine lv_iinc (v := (x8 + 1)) (lv' := [(8, .int (x8 + 1)), (0, .ref (a 0)), (1, .int x1), (2, .int x2), (3, .int x3), (4, .int (bI x4)), (5, .int (bI x5)), (6, .long x6), (9, .int x9)]) hx hb dX12_distance_263 hl (k := 7) rfl rfl (by decide) rfl (fun ls hl => ?_)
              refine lv_goto (tgt := 107) hx hb dX12_distance_266 (by decide) ?_
              exact ih107 x1 x2 x3 x4 x5 x6 (x8 + 1) _ _ _ _ h hW (lv_sub hl [1, 2, 3, 4, 5, 6, 7, 0] rfl)
            · have h := ifp q42 h
              refine lv_aload_n hx hb dX12_distance_137 rfl (lv_at hl 0 rfl) ?_
              refine g_X12_78 hF hW dX12_distance_138 ?_
              refine lv_iload hx hb dX12_distance_141 (lv_at hl 8 rfl) ?_
              obtain ⟨q43, h⟩ := ck_some h
              refine w_ild hF hW (pM_23 K a _) q43 dX12_distance_143 ?_
              refine lv_iload_n hx hb dX12_distance_144 rfl (lv_at hl 1 rfl) ?_
              refine lv_icmp_ne (tgt := 188) hx hb dX12_distance_145 (by decide) (fun q44 => ?_) (fun q44 => ?_)
              · have h := ifn q44 h
                exact J188 x1 x2 x3 x4 x5 x6 x8 x9 _ _ _ _ h hW (lv_sub hl [0, 1, 2, 3, 4, 5, 6, 7, 8] rfl)
              · have h := ifp q44 h
                refine lv_aload_n hx hb dX12_distance_148 rfl (lv_at hl 0 rfl) ?_
                refine lv_iload hx hb dX12_distance_149 (lv_at hl 8 rfl) ?_
                refine lv_iload hx hb dX12_distance_151 (lv_at hl 7 rfl) ?_
                refine lv_iconst (v := 0) hx hb dX12_distance_153 (by decide) ?_
                obtain ⟨r45, hc47, h⟩ := bq_some h
                refine cV_i (ci := 12) (q0 := 0) (rest := []) hF hW mw_X12_285 (c_X12_isNeed l K a hc47) ⟨Nat.le_of_ble_eq_true rfl, Nat.le_of_ble_eq_true rfl⟩ rfl rfl (pM_0 K a _) rfl hl.1 rfl (Nat.le_of_ble_eq_true rfl) dX12_distance_154 ⟨Nat.le_of_ble_eq_true rfl, Nat.le_of_ble_eq_true rfl⟩ (fun _ H locs hW => ?_)
                refine lz_ne (tgt := 184) hx hb dX12_distance_157 (by decide) (fun q48 => ?_) (fun q48 => ?_)
                · have h := ifp q48 h
                  exact J184 x1 x2 x3 x4 x5 x6 x8 x9 _ _ _ _ h hW (lv_sub hl [0, 1, 2, 3, 4, 5, 6, 7, 8] rfl)
                · have h := ifn q48 h
                  refine lv_aload_n hx hb dX12_distance_160 rfl (lv_at hl 0 rfl) ?_
                  refine lv_iload hx hb dX12_distance_161 (lv_at hl 8 rfl) ?_
                  refine lv_iload hx hb dX12_distance_163 (lv_at hl 7 rfl) ?_
                  refine lv_iconst (v := 1) hx hb dX12_distance_165 (by decide) ?_
                  obtain ⟨r49, hc51, h⟩ := bq_some h
                  refine cV_i (ci := 12) (q0 := 0) (rest := []) hF hW mw_X12_285 (c_X12_isNeed l K a hc51) ⟨Nat.le_of_ble_eq_true rfl, Nat.le_of_ble_eq_true rfl⟩ rfl rfl (pM_0 K a _) rfl hl.1 rfl (Nat.le_of_ble_eq_true rfl) dX12_distance_166 ⟨Nat.le_of_ble_eq_true rfl, Nat.le_of_ble_eq_true rfl⟩ (fun _ H locs hW => ?_)
                  refine lz_ne (tgt := 184) hx hb dX12_distance_169 (by decide) (fun q52 => ?_) (fun q52 => ?_)
                  · have h := ifp q52 h
                    exact J184 x1 x2 x3 x4 x5 x6 x8 x9 _ _ _ _ h hW (lv_sub hl [0, 1, 2, 3, 4, 5, 6, 7, 8] rfl)
                  · have h := ifn q52 h
                    refine lv_aload_n hx hb dX12_distance_172 rfl (lv_at hl 0 rfl) ?_
                    refine lv_iload hx hb dX12_distance_173 (lv_at hl 8 rfl) ?_
                    refine lv_iload hx hb dX12_distance_175 (lv_at hl 7 rfl) ?_
                    refine lv_iconst (v := 2) hx hb dX12_distance_177 (by decide) ?_
                    obtain ⟨r53, hc55, h⟩ := bq_some h
                    refine cV_i (ci := 12) (q0 := 0) (rest := []) hF hW mw_X12_285 (c_X12_isNeed l K a hc55) ⟨Nat.le_of_ble_eq_true rfl, Nat.le_of_ble_eq_true rfl⟩ rfl rfl (pM_0 K a _) rfl hl.1 rfl (Nat.le_of_ble_eq_true rfl) dX12_distance_178 ⟨Nat.le_of_ble_eq_true rfl, Nat.le_of_ble_eq_true rfl⟩ (fun _ H locs hW => ?_)
                    refine lz_eq (tgt := 188) hx hb dX12_distance_181 (by decide) (fun q56 => ?_) (fun q56 => ?_)
                    · have h := ifn q56 h
                      exact J188 x1 x2 x3 x4 x5 x6 x8 x9 _ _ _ _ h hW (lv_sub hl [0, 1, 2, 3, 4, 5, 6, 7, 8] rfl)
                    · have h := ifp q56 h
                      exact J184 x1 x2 x3 x4 x5 x6 x8 x9 _ _ _ _ h hW (lv_sub hl [0, 1, 2, 3, 4, 5, 6, 7, 8] rfl)
      intro x1 x2 x3 x4 x5 x6 x8 M H locs ls h hW hl
      rw [f_X12_distance_107] at h
      refine lv_iload hx hb dX12_distance_107 (lv_at hl 7 rfl) ?_
      refine lv_aload_n hx hb dX12_distance_109 rfl (lv_at hl 0 rfl) ?_
      refine g_X12_239 hF hW dX12_distance_110 ?_
      refine lv_icmp_ge (tgt := 269) hx hb dX12_distance_113 (by decide) (fun q38 => ?_) (fun q38 => ?_)
      · have h := ifp q38 h
        refine lv_iload hx hb dX12_distance_269 (lv_at hl 5 rfl) ?_
        refine lz_ne (tgt := 277) hx hb dX12_distance_271 (by decide) (fun q39 => ?_) (fun q39 => ?_)
        · have h := ifp q39 h
          refine lv_aload_n hx hb dX12_distance_277 rfl (lv_at hl 0 rfl) ?_
          refine lv_lload hx hb dX12_distance_278 (lv_at hl 6 rfl) ?_
          refine s_X12_228 (x := x6) hF hW dX12_distance_280 (fun H locs hW => ?_)
          refine lv_iconst (v := 1) hx hb dX12_distance_283 (by decide) ?_
          obtain ⟨rfl, rfl⟩ := Prod.mk.inj (Option.some.inj h)
          exact rt_i hF hr hk rfl (fun _ => 0) hW rfl dX12_distance_284
        · have h := ifn q39 h
          refine lv_bipush (v := (-9)) hx hb dX12_distance_274 (by decide) ?_
          obtain ⟨rfl, rfl⟩ := Prod.mk.inj (Option.some.inj h)
          exact rt_i hF hr hk rfl (fun _ => 0) hW rfl dX12_distance_276
      · have h := ifn q38 h
        refine lv_iconst (v := 0) hx hb dX12_distance_116 (by decide) ?_
        refine lv_istore (lv' := [(9, .int 0), (0, .ref (a 0)), (1, .int x1), (2, .int x2), (3, .int x3), (4, .int (bI x4)), (5, .int (bI x5)), (6, .long x6), (8, .int x8)]) hx hb dX12_distance_117 hl (by decide) rfl (fun ls hl => ?_)
        exact J119 100000 x1 x2 x3 x4 x5 x6 x8 0 _ _ _ _ h hW (lv_sub hl [1, 2, 3, 4, 5, 6, 7, 8, 0] rfl)
  unfold f_X12_distance at h
  refine lv_aload_n hx hb dX12_distance_0 rfl (lv_at hl 0 rfl) ?_
  refine lv_iload_n hx hb dX12_distance_1 rfl (lv_at hl 1 rfl) ?_
  obtain ⟨r1, hc3, h⟩ := bq_some h
  refine cV_i (ci := 12) (q0 := 0) (rest := []) hF hW mw_X12_177 (c_X12_isNode l K a hc3) ⟨Nat.le_of_ble_eq_true rfl, Nat.le_of_ble_eq_true rfl⟩ rfl rfl (pM_0 K a _) rfl hl.1 rfl (Nat.le_of_ble_eq_true rfl) dX12_distance_2 ⟨Nat.le_of_ble_eq_true rfl, Nat.le_of_ble_eq_true rfl⟩ (fun _ H locs hW => ?_)
  refine lz_eq (tgt := 28) hx hb dX12_distance_5 (by decide) (fun q4 => ?_) (fun q4 => ?_)
  · have h := ifn q4 h
    refine lv_iconst (v := (-1)) hx hb dX12_distance_28 (by decide) ?_
    obtain ⟨rfl, rfl⟩ := Prod.mk.inj (Option.some.inj h)
    exact rt_i hF hr hk rfl (fun _ => 0) hW rfl dX12_distance_29
  · have h := ifp q4 h
    refine lv_aload_n hx hb dX12_distance_8 rfl (lv_at hl 0 rfl) ?_
    refine lv_iload_n hx hb dX12_distance_9 rfl (lv_at hl 2 rfl) ?_
    obtain ⟨r5, hc7, h⟩ := bq_some h
    refine cV_i (ci := 12) (q0 := 0) (rest := []) hF hW mw_X12_177 (c_X12_isNode l K a hc7) ⟨Nat.le_of_ble_eq_true rfl, Nat.le_of_ble_eq_true rfl⟩ rfl rfl (pM_0 K a _) rfl hl.1 rfl (Nat.le_of_ble_eq_true rfl) dX12_distance_10 ⟨Nat.le_of_ble_eq_true rfl, Nat.le_of_ble_eq_true rfl⟩ (fun _ H locs hW => ?_)
    refine lz_eq (tgt := 28) hx hb dX12_distance_13 (by decide) (fun q8 => ?_) (fun q8 => ?_)
    · have h := ifn q8 h
      refine lv_iconst (v := (-1)) hx hb dX12_distance_28 (by decide) ?_
      obtain ⟨rfl, rfl⟩ := Prod.mk.inj (Option.some.inj h)
      exact rt_i hF hr hk rfl (fun _ => 0) hW rfl dX12_distance_29
    · have h := ifp q8 h
      refine lv_iload_n hx hb dX12_distance_16 rfl (lv_at hl 3 rfl) ?_
      refine lv_i2l hx hb dX12_distance_17 rfl ?_
      refine lv_lconst (v := 0) hx hb dX12_distance_18 (by decide) ?_
      refine lv_ldc2 hx hb hF.2.2.2.1 (hF.2.2.1 _ kl_X12_212) dX12_distance_19 ?_
      obtain ⟨r9, hc11, h⟩ := bq_some h
      refine cS_i (rest := []) hF hW mw_X12_154 (c_X12_in l K hc11) ⟨Nat.le_of_ble_eq_true rfl, Nat.le_of_ble_eq_true rfl⟩ rfl hl.1 rfl (Nat.le_of_ble_eq_true rfl) dX12_distance_22 ⟨Nat.le_of_ble_eq_true rfl, Nat.le_of_ble_eq_true rfl⟩ (fun _ H locs hW => ?_)
      refine lz_ne (tgt := 30) hx hb dX12_distance_25 (by decide) (fun q12 => ?_) (fun q12 => ?_)
      · have h := ifp q12 h
        refine lv_aload_n hx hb dX12_distance_30 rfl (lv_at hl 0 rfl) ?_
        obtain ⟨r13, M14, hc15, h⟩ := bd_some h
        refine cV_i (ci := 12) (q0 := 0) (rest := []) hF hW mw_X12_273 (c_X12_walk l K a hc15) ⟨Nat.le_of_ble_eq_true rfl, Nat.le_of_ble_eq_true rfl⟩ rfl rfl (pM_0 K a _) rfl hl.1 rfl (Nat.le_of_ble_eq_true rfl) dX12_distance_31 ⟨Nat.le_of_ble_eq_true rfl, Nat.le_of_ble_eq_true rfl⟩ (fun _ H locs hW => ?_)
        refine lz_eq (tgt := 40) hx hb dX12_distance_34 (by decide) (fun q16 => ?_) (fun q16 => ?_)
        · have h := ifn q16 h
          refine lv_aload_n hx hb dX12_distance_40 rfl (lv_at hl 0 rfl) ?_
          refine g_X12_26 hF hW dX12_distance_41 ?_
          refine lv_iload_n hx hb dX12_distance_44 rfl (lv_at hl 1 rfl) ?_
          obtain ⟨q17, h⟩ := ck_some h
          refine w_ild hF hW (pM_6 K a _) q17 dX12_distance_45 ?_
          refine lv_iconst (v := 3) hx hb dX12_distance_46 (by decide) ?_
          refine lv_icmp_ne (tgt := 60) hx hb dX12_distance_47 (by decide) (fun q18 => ?_) (fun q18 => ?_)
          · have h := ifn q18 h
            exact J60 _ _ _ _ h hW (lv_sub hl [0] rfl)
          · have h := ifp q18 h
            refine lv_aload_n hx hb dX12_distance_50 rfl (lv_at hl 0 rfl) ?_
            refine g_X12_26 hF hW dX12_distance_51 ?_
            refine lv_iload_n hx hb dX12_distance_54 rfl (lv_at hl 2 rfl) ?_
            obtain ⟨q19, h⟩ := ck_some h
            refine w_ild hF hW (pM_6 K a _) q19 dX12_distance_55 ?_
            refine lv_iconst (v := 3) hx hb dX12_distance_56 (by decide) ?_
            refine lv_icmp_eq (tgt := 66) hx hb dX12_distance_57 (by decide) (fun q20 => ?_) (fun q20 => ?_)
            · have h := ifp q20 h
              refine lv_aload_n hx hb dX12_distance_66 rfl (lv_at hl 0 rfl) ?_
              refine lv_iload_n hx hb dX12_distance_67 rfl (lv_at hl 1 rfl) ?_
              refine lv_iload_n hx hb dX12_distance_68 rfl (lv_at hl 3 rfl) ?_
              obtain ⟨r21, hc23, h⟩ := bq_some h
              refine cV_i (ci := 12) (q0 := 0) (rest := []) hF hW mw_X12_270 (c_X12_loopOf l K a hc23) ⟨Nat.le_of_ble_eq_true rfl, Nat.le_of_ble_eq_true rfl⟩ rfl rfl (pM_0 K a _) rfl hl.1 rfl (Nat.le_of_ble_eq_true rfl) dX12_distance_69 ⟨Nat.le_of_ble_eq_true rfl, Nat.le_of_ble_eq_true rfl⟩ (fun _ H locs hW => ?_)
              refine lv_bipush (v := (-9)) hx hb dX12_distance_72 (by decide) ?_
              refine lv_icmp_eq (tgt := 92) hx hb dX12_distance_74 (by decide) (fun q24 => ?_) (fun q24 => ?_)
              · have h := ifp q24 h
                refine lv_iconst (v := (-1)) hx hb dX12_distance_92 (by decide) ?_
                obtain ⟨rfl, rfl⟩ := Prod.mk.inj (Option.some.inj h)
                exact rt_i hF hr hk rfl (fun _ => 0) hW rfl dX12_distance_93
              · have h := ifn q24 h
                refine lv_aload_n hx hb dX12_distance_77 rfl (lv_at hl 0 rfl) ?_
                refine lv_iload_n hx hb dX12_distance_78 rfl (lv_at hl 1 rfl) ?_
                refine lv_iload_n hx hb dX12_distance_79 rfl (lv_at hl 3 rfl) ?_
                obtain ⟨r25, hc27, h⟩ := bq_some h
                refine cV_i (ci := 12) (q0 := 0) (rest := []) hF hW mw_X12_270 (c_X12_loopOf l K a hc27) ⟨Nat.le_of_ble_eq_true rfl, Nat.le_of_ble_eq_true rfl⟩ rfl rfl (pM_0 K a _) rfl hl.1 rfl (Nat.le_of_ble_eq_true rfl) dX12_distance_80 ⟨Nat.le_of_ble_eq_true rfl, Nat.le_of_ble_eq_true rfl⟩ (fun _ H locs hW => ?_)
                refine lv_aload_n hx hb dX12_distance_83 rfl (lv_at hl 0 rfl) ?_
                refine lv_iload_n hx hb dX12_distance_84 rfl (lv_at hl 2 rfl) ?_
                refine lv_iload_n hx hb dX12_distance_85 rfl (lv_at hl 3 rfl) ?_
                obtain ⟨r28, hc30, h⟩ := bq_some h
                refine cV_i (ci := 12) (q0 := 0) (rest := [.int r25]) hF hW mw_X12_270 (c_X12_loopOf l K a hc30) ⟨Nat.le_of_ble_eq_true rfl, Nat.le_of_ble_eq_true rfl⟩ rfl rfl (pM_0 K a _) rfl hl.1 rfl (Nat.le_of_ble_eq_true rfl) dX12_distance_86 ⟨Nat.le_of_ble_eq_true rfl, Nat.le_of_ble_eq_true rfl⟩ (fun _ H locs hW => ?_)
                refine lv_icmp_eq (tgt := 94) hx hb dX12_distance_89 (by decide) (fun q31 => ?_) (fun q31 => ?_)
                · have h := ifp q31 h
                  refine lv_aload_n hx hb dX12_distance_94 rfl (lv_at hl 0 rfl) ?_
                  obtain ⟨M33, hc34, h⟩ := bm_some h
                  refine cV_v (ci := 12) (q0 := 0) (rest := []) hF hW mw_X12_282 (c_X12_touchAll l K a hc34) ⟨Nat.le_of_ble_eq_true rfl, Nat.le_of_ble_eq_true rfl⟩ rfl rfl (pM_0 K a _) rfl hl.1 rfl (Nat.le_of_ble_eq_true rfl) dX12_distance_95 ⟨Nat.le_of_ble_eq_true rfl, Nat.le_of_ble_eq_true rfl⟩ (fun _ H locs hW => ?_)
                  refine lv_iconst (v := 0) hx hb dX12_distance_98 (by decide) ?_
                  refine lv_istore (lv' := [(5, .int 0), (0, .ref (a 0)), (1, .int x1), (2, .int x2), (3, .int x3), (4, .int (bI x4))]) hx hb dX12_distance_99 hl (by decide) rfl (fun ls hl => ?_)
                  refine lv_lconst (v := 0) hx hb dX12_distance_101 (by decide) ?_
                  refine lv_lstore (lv' := [(6, .long 0), (5, .int 0), (0, .ref (a 0)), (1, .int x1), (2, .int x2), (3, .int x3), (4, .int (bI x4))]) hx hb dX12_distance_102 hl (by decide) rfl (fun ls hl => ?_)
                  refine lv_iconst (v := 0) hx hb dX12_distance_104 (by decide) ?_
                  refine lv_istore (lv' := [(8, .int 0), (6, .long 0), (5, .int 0), (0, .ref (a 0)), (1, .int x1), (2, .int x2), (3, .int x3), (4, .int (bI x4))]) hx hb dX12_distance_105 hl (by decide) rfl (fun ls hl => ?_)
                  exact J107 100000 x1 x2 x3 x4 false 0 0 _ _ _ _ h hW (lv_sub hl [3, 4, 5, 6, 7, 2, 1, 0] rfl)
                · have h := ifn q31 h
                  refine lv_iconst (v := (-1)) hx hb dX12_distance_92 (by decide) ?_
                  obtain ⟨rfl, rfl⟩ := Prod.mk.inj (Option.some.inj h)
                  exact rt_i hF hr hk rfl (fun _ => 0) hW rfl dX12_distance_93
            · have h := ifn q20 h
              exact J60 _ _ _ _ h hW (lv_sub hl [0] rfl)
        · have h := ifp q16 h
          refine lv_bipush (v := (-6)) hx hb dX12_distance_37 (by decide) ?_
          obtain ⟨rfl, rfl⟩ := Prod.mk.inj (Option.some.inj h)
          exact rt_i hF hr hk rfl (fun _ => 0) hW rfl dX12_distance_39
      · have h := ifn q12 h
        refine lv_iconst (v := (-1)) hx hb dX12_distance_28 (by decide) ?_
        obtain ⟨rfl, rfl⟩ := Prod.mk.inj (Option.some.inj h)
        exact rt_i hF hr hk rfl (fun _ => 0) hW rfl dX12_distance_29
set_option maxRecDepth 100000 in
set_option maxHeartbeats 1000000 in
theorem c_X12_free (l : Launch) (K : Kx) (a : Nat → Nat) {M M0 : Mem} {x1 : Int32} {r0 : Int32} (h : f_X12_free M x1 = some (r0, M0)) : CMi l yX12_free cX12_free 5 (some .int) ({ frames := 3, cells := 0, slots := 0, locals := 69 } : Room) K [.ref (a 0), .int x1] (wM K a M) (fun _ => wM K a M0) r0 := by
  refine cs_i (by decide +kernel) (Nat.le_of_ble_eq_true rfl) ?_
  intro p e s m args below meth c A ls hF hr hk hnm hW hl
  have hx := hF.1
  have hb := hF.2.1
  have hl : lv_has ls 5 [(0, .ref (a 0)), (1, .int x1)] := hl
  obtain ⟨H, hH⟩ : ∃ z, z = s.heap := ⟨_, rfl⟩
  rw [← hH] at hW ⊢
  have J40 : ∀ (n40 : Nat) (x1 : Int32) (x2 : Int32) (M : Mem) (H : Heap) (locs : List Loc) (ls : Array Slot), f_X12_free_40 n40 x1 x2 M = some (r0, M0) → Wd K A s (wM K a M) H locs → lv_has ls 5 [(0, .ref (a 0)), (1, .int x1), (2, .int x2)] → W p l e ({ frames := 3, cells := 0, slots := 0, locals := 69 } : Room) s m args below meth c H locs 0 0 (EndI K A (fun _ => wM K a M0) r0 below args s ({ frames := 3, cells := 0, slots := 0, locals := 69 } : Room)) (F0 m 40 ls []) := by
    intro n40
    induction n40 with
    | zero => intro x1 x2 M H locs ls h; exact absurd h (by simp [f_X12_free_40])
    | succ n40 ih40 =>
      have J50 : ∀ (n50 : Nat) (x1 : Int32) (x2 : Int32) (x3 : Int32) (M : Mem) (H : Heap) (locs : List Loc) (ls : Array Slot), f_X12_free_50 (f_X12_free_40 n40) n50 x1 x2 x3 M = some (r0, M0) → Wd K A s (wM K a M) H locs → lv_has ls 5 [(0, .ref (a 0)), (1, .int x1), (2, .int x2), (3, .int x3)] → W p l e ({ frames := 3, cells := 0, slots := 0, locals := 69 } : Room) s m args below meth c H locs 0 0 (EndI K A (fun _ => wM K a M0) r0 below args s ({ frames := 3, cells := 0, slots := 0, locals := 69 } : Room)) (F0 m 50 ls []) := by
        intro n50
        induction n50 with
        | zero => intro x1 x2 x3 M H locs ls h; exact absurd h (by simp [f_X12_free_50])
        | succ n50 ih50 =>
          have J103 : ∀ (x1 : Int32) (x2 : Int32) (x3 : Int32) (s0 : Bool) (M : Mem) (H : Heap) (locs : List Loc) (ls : Array Slot), f_X12_free_103 (f_X12_free_50 (f_X12_free_40 n40) n50) x1 x2 x3 s0 M = some (r0, M0) → Wd K A s (wM K a M) H locs → lv_has ls 5 [(0, .ref (a 0)), (1, .int x1), (2, .int x2), (3, .int x3)] → W p l e ({ frames := 3, cells := 0, slots := 0, locals := 69 } : Room) s m args below meth c H locs 0 0 (EndI K A (fun _ => wM K a M0) r0 below args s ({ frames := 3, cells := 0, slots := 0, locals := 69 } : Room)) (F0 m 103 ls [.int (bI s0)]) := by
            intro x1 x2 x3 s0 M H locs ls h hW hl
            unfold f_X12_free_103 at h
            refine lv_istore (lv' := [(4, .int (bI s0)), (0, .ref (a 0)), (1, .int x1), (2, .int x2), (3, .int x3)]) hx hb dX12_free_103 hl (by decide) rfl (fun ls hl => ?_)
            refine lv_iload hx hb dX12_free_105 (lv_at hl 0 rfl) ?_
            refine lz_eq (tgt := 142) hx hb dX12_free_107 (by decide) (fun q36 => ?_) (fun q36 => ?_)
            · have h := ifn q36 h
              refine lv_iinc (v := (x3 + 1)) (lv' := [(3, .int (x3 + 1)), (4, .int (bI s0)), (0, .ref (a 0)), (1, .int x1), (2, .int x2)]) hx hb dX12_free_142 hl (k := 4) rfl rfl (by decide) rfl (fun ls hl => ?_)
              refine lv_goto (tgt := 50) hx hb dX12_free_145 (by decide) ?_
              exact ih50 x1 x2 (x3 + 1) _ _ _ _ h hW (lv_sub hl [2, 3, 4, 0] rfl)
            · have h := ifp q36 h
              refine lv_aload_n hx hb dX12_free_110 rfl (lv_at hl 1 rfl) ?_
              refine lv_iload_n hx hb dX12_free_111 rfl (lv_at hl 4 rfl) ?_
              refine lv_iload_n hx hb dX12_free_112 rfl (lv_at hl 3 rfl) ?_
              refine lv_iconst (v := 0) hx hb dX12_free_113 (by decide) ?_
              obtain ⟨r37, hc39, h⟩ := bq_some h
              refine cV_i (ci := 12) (q0 := 0) (rest := []) hF hW mw_X12_285 (c_X12_isNeed l K a hc39) ⟨Nat.le_of_ble_eq_true rfl, Nat.le_of_ble_eq_true rfl⟩ rfl rfl (pM_0 K a _) rfl hl.1 rfl (Nat.le_of_ble_eq_true rfl) dX12_free_114 ⟨Nat.le_of_ble_eq_true rfl, Nat.le_of_ble_eq_true rfl⟩ (fun _ H locs hW => ?_)
              refine lz_ne (tgt := 140) hx hb dX12_free_117 (by decide) (fun q40 => ?_) (fun q40 => ?_)
              · have h := ifp q40 h
                refine lv_iconst (v := 0) hx hb dX12_free_140 (by decide) ?_
                obtain ⟨rfl, rfl⟩ := Prod.mk.inj (Option.some.inj h)
                exact rt_i hF hr hk rfl (fun _ => 0) hW rfl dX12_free_141
              · have h := ifn q40 h
                refine lv_aload_n hx hb dX12_free_120 rfl (lv_at hl 1 rfl) ?_
                refine lv_iload_n hx hb dX12_free_121 rfl (lv_at hl 4 rfl) ?_
                refine lv_iload_n hx hb dX12_free_122 rfl (lv_at hl 3 rfl) ?_
                refine lv_iconst (v := 1) hx hb dX12_free_123 (by decide) ?_
                obtain ⟨r41, hc43, h⟩ := bq_some h
                refine cV_i (ci := 12) (q0 := 0) (rest := []) hF hW mw_X12_285 (c_X12_isNeed l K a hc43) ⟨Nat.le_of_ble_eq_true rfl, Nat.le_of_ble_eq_true rfl⟩ rfl rfl (pM_0 K a _) rfl hl.1 rfl (Nat.le_of_ble_eq_true rfl) dX12_free_124 ⟨Nat.le_of_ble_eq_true rfl, Nat.le_of_ble_eq_true rfl⟩ (fun _ H locs hW => ?_)
                refine lz_ne (tgt := 140) hx hb dX12_free_127 (by decide) (fun q44 => ?_) (fun q44 => ?_)
                · have h := ifp q44 h
                  refine lv_iconst (v := 0) hx hb dX12_free_140 (by decide) ?_
                  obtain ⟨rfl, rfl⟩ := Prod.mk.inj (Option.some.inj h)
                  exact rt_i hF hr hk rfl (fun _ => 0) hW rfl dX12_free_141
                · have h := ifn q44 h
                  refine lv_aload_n hx hb dX12_free_130 rfl (lv_at hl 1 rfl) ?_
                  refine lv_iload_n hx hb dX12_free_131 rfl (lv_at hl 4 rfl) ?_
                  refine lv_iload_n hx hb dX12_free_132 rfl (lv_at hl 3 rfl) ?_
                  refine lv_iconst (v := 2) hx hb dX12_free_133 (by decide) ?_
                  obtain ⟨r45, hc47, h⟩ := bq_some h
                  refine cV_i (ci := 12) (q0 := 0) (rest := []) hF hW mw_X12_285 (c_X12_isNeed l K a hc47) ⟨Nat.le_of_ble_eq_true rfl, Nat.le_of_ble_eq_true rfl⟩ rfl rfl (pM_0 K a _) rfl hl.1 rfl (Nat.le_of_ble_eq_true rfl) dX12_free_134 ⟨Nat.le_of_ble_eq_true rfl, Nat.le_of_ble_eq_true rfl⟩ (fun _ H locs hW => ?_)
                  refine lz_eq (tgt := 142) hx hb dX12_free_137 (by decide) (fun q48 => ?_) (fun q48 => ?_)
                  · have h := ifn q48 h
                    refine lv_iinc (v := (x3 + 1)) (lv' := [(3, .int (x3 + 1)), (4, .int (bI s0)), (0, .ref (a 0)), (1, .int x1), (2, .int x2)]) hx hb dX12_free_142 hl (k := 4) rfl rfl (by decide) rfl (fun ls hl => ?_)
                    refine lv_goto (tgt := 50) hx hb dX12_free_145 (by decide) ?_
                    exact ih50 x1 x2 (x3 + 1) _ _ _ _ h hW (lv_sub hl [2, 3, 4, 0] rfl)
                  · have h := ifp q48 h
                    refine lv_iconst (v := 0) hx hb dX12_free_140 (by decide) ?_
                    obtain ⟨rfl, rfl⟩ := Prod.mk.inj (Option.some.inj h)
                    exact rt_i hF hr hk rfl (fun _ => 0) hW rfl dX12_free_141
          have J102 : ∀ (x1 : Int32) (x2 : Int32) (x3 : Int32) (M : Mem) (H : Heap) (locs : List Loc) (ls : Array Slot), f_X12_free_102 (f_X12_free_103 (f_X12_free_50 (f_X12_free_40 n40) n50)) x1 x2 x3 M = some (r0, M0) → Wd K A s (wM K a M) H locs → lv_has ls 5 [(0, .ref (a 0)), (1, .int x1), (2, .int x2), (3, .int x3)] → W p l e ({ frames := 3, cells := 0, slots := 0, locals := 69 } : Room) s m args below meth c H locs 0 0 (EndI K A (fun _ => wM K a M0) r0 below args s ({ frames := 3, cells := 0, slots := 0, locals := 69 } : Room)) (F0 m 102 ls []) := by
            intro x1 x2 x3 M H locs ls h hW hl
            unfold f_X12_free_102 at h
            refine lv_iconst (v := 0) hx hb dX12_free_102 (by decide) ?_
            exact J103 x1 x2 x3 false _ _ _ _ h hW (lv_sub hl [0, 1, 2, 3] rfl)
          intro x1 x2 x3 M H locs ls h hW hl
          rw [f_X12_free_50] at h
          refine lv_iload_n hx hb dX12_free_50 rfl (lv_at hl 3 rfl) ?_
          refine lv_iload_n hx hb dX12_free_51 rfl (lv_at hl 2 rfl) ?_
          refine lv_icmp_ge (tgt := 148) hx hb dX12_free_52 (by decide) (fun q20 => ?_) (fun q20 => ?_)
          · have h := ifp q20 h
            refine lv_iinc (v := (x2 + 1)) (lv' := [(2, .int (x2 + 1)), (0, .ref (a 0)), (1, .int x1), (3, .int x3)]) hx hb dX12_free_148 hl (k := 2) rfl rfl (by decide) rfl (fun ls hl => ?_)
            refine lv_goto (tgt := 40) hx hb dX12_free_151 (by decide) ?_
            exact ih40 x1 (x2 + 1) _ _ _ _ h hW (lv_sub hl [1, 2, 0] rfl)
          · have h := ifn q20 h
            refine lv_aload_n hx hb dX12_free_55 rfl (lv_at hl 0 rfl) ?_
            refine lv_aload_n hx hb dX12_free_56 rfl (lv_at hl 0 rfl) ?_
            refine g_X12_78 hF hW dX12_free_57 ?_
            refine lv_iload_n hx hb dX12_free_60 rfl (lv_at hl 3 rfl) ?_
            obtain ⟨q21, h⟩ := ck_some h
            refine w_ild hF hW (pM_23 K a _) q21 dX12_free_61 ?_
            refine lv_iload_n hx hb dX12_free_62 rfl (lv_at hl 1 rfl) ?_
            obtain ⟨r22, hc24, h⟩ := bq_some h
            refine cV_i (ci := 12) (q0 := 0) (rest := []) hF hW mw_X12_292 (c_X12_isIn l K a hc24) ⟨Nat.le_of_ble_eq_true rfl, Nat.le_of_ble_eq_true rfl⟩ rfl rfl (pM_0 K a _) rfl hl.1 rfl (Nat.le_of_ble_eq_true rfl) dX12_free_63 ⟨Nat.le_of_ble_eq_true rfl, Nat.le_of_ble_eq_true rfl⟩ (fun _ H locs hW => ?_)
            refine lz_eq (tgt := 102) hx hb dX12_free_66 (by decide) (fun q25 => ?_) (fun q25 => ?_)
            · have h := ifn q25 h
              exact J102 x1 x2 x3 _ _ _ _ h hW (lv_sub hl [0, 1, 2, 3] rfl)
            · have h := ifp q25 h
              refine lv_aload_n hx hb dX12_free_69 rfl (lv_at hl 0 rfl) ?_
              refine lv_aload_n hx hb dX12_free_70 rfl (lv_at hl 0 rfl) ?_
              refine g_X12_78 hF hW dX12_free_71 ?_
              refine lv_iload_n hx hb dX12_free_74 rfl (lv_at hl 2 rfl) ?_
              obtain ⟨q26, h⟩ := ck_some h
              refine w_ild hF hW (pM_23 K a _) q26 dX12_free_75 ?_
              refine lv_iload_n hx hb dX12_free_76 rfl (lv_at hl 1 rfl) ?_
              obtain ⟨r27, hc29, h⟩ := bq_some h
              refine cV_i (ci := 12) (q0 := 0) (rest := []) hF hW mw_X12_292 (c_X12_isIn l K a hc29) ⟨Nat.le_of_ble_eq_true rfl, Nat.le_of_ble_eq_true rfl⟩ rfl rfl (pM_0 K a _) rfl hl.1 rfl (Nat.le_of_ble_eq_true rfl) dX12_free_77 ⟨Nat.le_of_ble_eq_true rfl, Nat.le_of_ble_eq_true rfl⟩ (fun _ H locs hW => ?_)
              refine lz_eq (tgt := 102) hx hb dX12_free_80 (by decide) (fun q30 => ?_) (fun q30 => ?_)
              · have h := ifn q30 h
                exact J102 x1 x2 x3 _ _ _ _ h hW (lv_sub hl [0, 1, 2, 3] rfl)
              · have h := ifp q30 h
                refine lv_aload_n hx hb dX12_free_83 rfl (lv_at hl 0 rfl) ?_
                refine lv_iload_n hx hb dX12_free_84 rfl (lv_at hl 3 rfl) ?_
                refine lv_iload_n hx hb dX12_free_85 rfl (lv_at hl 2 rfl) ?_
                obtain ⟨r31, hc33, h⟩ := bq_some h
                refine cV_i (ci := 12) (q0 := 0) (rest := []) hF hW mw_X12_289 (c_X12_carrier l K a hc33) ⟨Nat.le_of_ble_eq_true rfl, Nat.le_of_ble_eq_true rfl⟩ rfl rfl (pM_0 K a _) rfl hl.1 rfl (Nat.le_of_ble_eq_true rfl) dX12_free_86 ⟨Nat.le_of_ble_eq_true rfl, Nat.le_of_ble_eq_true rfl⟩ (fun _ H locs hW => ?_)
                refine lv_aload_n hx hb dX12_free_89 rfl (lv_at hl 0 rfl) ?_
                refine g_X12_32 hF hW dX12_free_90 ?_
                refine lv_iload_n hx hb dX12_free_93 rfl (lv_at hl 1 rfl) ?_
                obtain ⟨q34, h⟩ := ck_some h
                refine w_ild hF hW (pM_8 K a _) q34 dX12_free_94 ?_
                refine lv_icmp_ne (tgt := 102) hx hb dX12_free_95 (by decide) (fun q35 => ?_) (fun q35 => ?_)
                · have h := ifn q35 h
                  exact J102 x1 x2 x3 _ _ _ _ h hW (lv_sub hl [0, 1, 2, 3] rfl)
                · have h := ifp q35 h
                  refine lv_iconst (v := 1) hx hb dX12_free_98 (by decide) ?_
                  refine lv_goto (tgt := 103) hx hb dX12_free_99 (by decide) ?_
                  exact J103 x1 x2 x3 true _ _ _ _ h hW (lv_sub hl [0, 1, 2, 3] rfl)
      intro x1 x2 M H locs ls h hW hl
      rw [f_X12_free_40] at h
      refine lv_iload_n hx hb dX12_free_40 rfl (lv_at hl 2 rfl) ?_
      refine lv_aload_n hx hb dX12_free_41 rfl (lv_at hl 0 rfl) ?_
      refine g_X12_239 hF hW dX12_free_42 ?_
      refine lv_icmp_ge (tgt := 154) hx hb dX12_free_45 (by decide) (fun q19 => ?_) (fun q19 => ?_)
      · have h := ifp q19 h
        refine lv_iconst (v := 1) hx hb dX12_free_154 (by decide) ?_
        obtain ⟨rfl, rfl⟩ := Prod.mk.inj (Option.some.inj h)
        exact rt_i hF hr hk rfl (fun _ => 0) hW rfl dX12_free_155
      · have h := ifn q19 h
        refine lv_iconst (v := 0) hx hb dX12_free_48 (by decide) ?_
        refine lv_istore_n (lv' := [(3, .int 0), (0, .ref (a 0)), (1, .int x1), (2, .int x2)]) hx hb dX12_free_49 rfl hl (by decide) rfl (fun ls hl => ?_)
        exact J50 100000 x1 x2 0 _ _ _ _ h hW (lv_sub hl [1, 2, 3, 0] rfl)
  unfold f_X12_free at h
  refine lv_aload_n hx hb dX12_free_0 rfl (lv_at hl 0 rfl) ?_
  refine lv_iload_n hx hb dX12_free_1 rfl (lv_at hl 1 rfl) ?_
  obtain ⟨r1, hc3, h⟩ := bq_some h
  refine cV_i (ci := 12) (q0 := 0) (rest := []) hF hW mw_X12_177 (c_X12_isNode l K a hc3) ⟨Nat.le_of_ble_eq_true rfl, Nat.le_of_ble_eq_true rfl⟩ rfl rfl (pM_0 K a _) rfl hl.1 rfl (Nat.le_of_ble_eq_true rfl) dX12_free_2 ⟨Nat.le_of_ble_eq_true rfl, Nat.le_of_ble_eq_true rfl⟩ (fun _ H locs hW => ?_)
  refine lz_ne (tgt := 10) hx hb dX12_free_5 (by decide) (fun q4 => ?_) (fun q4 => ?_)
  · have h := ifp q4 h
    refine lv_aload_n hx hb dX12_free_10 rfl (lv_at hl 0 rfl) ?_
    obtain ⟨r5, M6, hc7, h⟩ := bd_some h
    refine cV_i (ci := 12) (q0 := 0) (rest := []) hF hW mw_X12_273 (c_X12_walk l K a hc7) ⟨Nat.le_of_ble_eq_true rfl, Nat.le_of_ble_eq_true rfl⟩ rfl rfl (pM_0 K a _) rfl hl.1 rfl (Nat.le_of_ble_eq_true rfl) dX12_free_11 ⟨Nat.le_of_ble_eq_true rfl, Nat.le_of_ble_eq_true rfl⟩ (fun _ H locs hW => ?_)
    refine lz_eq (tgt := 20) hx hb dX12_free_14 (by decide) (fun q8 => ?_) (fun q8 => ?_)
    · have h := ifn q8 h
      refine lv_aload_n hx hb dX12_free_20 rfl (lv_at hl 0 rfl) ?_
      refine lv_iload_n hx hb dX12_free_21 rfl (lv_at hl 1 rfl) ?_
      obtain ⟨r9, hc11, h⟩ := bq_some h
      refine cV_i (ci := 12) (q0 := 0) (rest := []) hF hW mw_X12_173 (c_X12_isLoop l K a hc11) ⟨Nat.le_of_ble_eq_true rfl, Nat.le_of_ble_eq_true rfl⟩ rfl rfl (pM_0 K a _) rfl hl.1 rfl (Nat.le_of_ble_eq_true rfl) dX12_free_22 ⟨Nat.le_of_ble_eq_true rfl, Nat.le_of_ble_eq_true rfl⟩ (fun _ H locs hW => ?_)
      refine lz_ne (tgt := 34) hx hb dX12_free_25 (by decide) (fun q12 => ?_) (fun q12 => ?_)
      · have h := ifp q12 h
        refine lv_aload_n hx hb dX12_free_34 rfl (lv_at hl 0 rfl) ?_
        obtain ⟨M14, hc15, h⟩ := bm_some h
        refine cV_v (ci := 12) (q0 := 0) (rest := []) hF hW mw_X12_282 (c_X12_touchAll l K a hc15) ⟨Nat.le_of_ble_eq_true rfl, Nat.le_of_ble_eq_true rfl⟩ rfl rfl (pM_0 K a _) rfl hl.1 rfl (Nat.le_of_ble_eq_true rfl) dX12_free_35 ⟨Nat.le_of_ble_eq_true rfl, Nat.le_of_ble_eq_true rfl⟩ (fun _ H locs hW => ?_)
        refine lv_iconst (v := 0) hx hb dX12_free_38 (by decide) ?_
        refine lv_istore_n (lv' := [(2, .int 0), (0, .ref (a 0)), (1, .int x1)]) hx hb dX12_free_39 rfl hl (by decide) rfl (fun ls hl => ?_)
        exact J40 100000 x1 0 _ _ _ _ h hW (lv_sub hl [1, 2, 0] rfl)
      · have h := ifn q12 h
        refine lv_aload_n hx hb dX12_free_28 rfl (lv_at hl 0 rfl) ?_
        refine lv_iconst (v := 3) hx hb dX12_free_29 (by decide) ?_
        obtain ⟨r16, M17, hc18, h⟩ := bd_some h
        refine cV_i (ci := 12) (q0 := 0) (rest := []) hF hW mw_X12_207 (c_X12_meets l K a hc18) ⟨Nat.le_of_ble_eq_true rfl, Nat.le_of_ble_eq_true rfl⟩ rfl rfl (pM_0 K a _) rfl hl.1 rfl (Nat.le_of_ble_eq_true rfl) dX12_free_30 ⟨Nat.le_of_ble_eq_true rfl, Nat.le_of_ble_eq_true rfl⟩ (fun _ H locs hW => ?_)
        obtain ⟨rfl, rfl⟩ := Prod.mk.inj (Option.some.inj h)
        exact rt_i hF hr hk rfl (fun _ => 0) hW rfl dX12_free_33
    · have h := ifp q8 h
      refine lv_bipush (v := (-6)) hx hb dX12_free_17 (by decide) ?_
      obtain ⟨rfl, rfl⟩ := Prod.mk.inj (Option.some.inj h)
      exact rt_i hF hr hk rfl (fun _ => 0) hW rfl dX12_free_19
  · have h := ifn q4 h
    refine lv_iconst (v := (-1)) hx hb dX12_free_8 (by decide) ?_
    obtain ⟨rfl, rfl⟩ := Prod.mk.inj (Option.some.inj h)
    exact rt_i hF hr hk rfl (fun _ => 0) hW rfl dX12_free_9
set_option maxRecDepth 100000 in
set_option maxHeartbeats 1000000 in
theorem c_X12_allowed (l : Launch) (K : Kx) (a : Nat → Nat) {M M0 : Mem}  {r0 : Int32} (h : f_X12_allowed M = some (r0, M0)) : CMi l yX12_allowed cX12_allowed 1 (some .int) ({ frames := 4, cells := 0, slots := 0, locals := 92 } : Room) K [.ref (a 0)] (wM K a M) (fun _ => wM K a M0) r0 := by
  refine cs_i (by decide +kernel) (Nat.le_of_ble_eq_true rfl) ?_
  intro p e s m args below meth c A ls hF hr hk hnm hW hl
  have hx := hF.1
  have hb := hF.2.1
  have hl : lv_has ls 1 [(0, .ref (a 0))] := hl
  obtain ⟨H, hH⟩ : ∃ z, z = s.heap := ⟨_, rfl⟩
  rw [← hH] at hW ⊢
  unfold f_X12_allowed at h
  refine lv_aload_n hx hb dX12_allowed_0 rfl (lv_at hl 0 rfl) ?_
  obtain ⟨r1, M2, hc3, h⟩ := bd_some h
  refine cV_i (ci := 12) (q0 := 0) (rest := []) hF hW mw_X12_273 (c_X12_walk l K a hc3) ⟨Nat.le_of_ble_eq_true rfl, Nat.le_of_ble_eq_true rfl⟩ rfl rfl (pM_0 K a _) rfl hl.1 rfl (Nat.le_of_ble_eq_true rfl) dX12_allowed_1 ⟨Nat.le_of_ble_eq_true rfl, Nat.le_of_ble_eq_true rfl⟩ (fun _ H locs hW => ?_)
  refine lz_eq (tgt := 12) hx hb dX12_allowed_4 (by decide) (fun q4 => ?_) (fun q4 => ?_)
  · have h := ifn q4 h
    refine lv_aload_n hx hb dX12_allowed_12 rfl (lv_at hl 0 rfl) ?_
    obtain ⟨r5, M6, hc7, h⟩ := bd_some h
    refine cV_i (ci := 12) (q0 := 0) (rest := []) hF hW mw_X12_369 (c_X12_isAllowed l K a hc7) ⟨Nat.le_of_ble_eq_true rfl, Nat.le_of_ble_eq_true rfl⟩ rfl rfl (pM_0 K a _) rfl hl.1 rfl (Nat.le_of_ble_eq_true rfl) dX12_allowed_13 ⟨Nat.le_of_ble_eq_true rfl, Nat.le_of_ble_eq_true rfl⟩ (fun _ H locs hW => ?_)
    refine lz_eq (tgt := 23) hx hb dX12_allowed_16 (by decide) (fun q8 => ?_) (fun q8 => ?_)
    · have h := ifn q8 h
      refine lv_iconst (v := 0) hx hb dX12_allowed_23 (by decide) ?_
      obtain ⟨rfl, rfl⟩ := Prod.mk.inj (Option.some.inj h)
      exact rt_i hF hr hk rfl (fun _ => 0) hW rfl dX12_allowed_24
    · have h := ifp q8 h
      refine lv_iconst (v := 1) hx hb dX12_allowed_19 (by decide) ?_
      refine lv_goto (tgt := 24) hx hb dX12_allowed_20 (by decide) ?_
      obtain ⟨rfl, rfl⟩ := Prod.mk.inj (Option.some.inj h)
      exact rt_i hF hr hk rfl (fun _ => 0) hW rfl dX12_allowed_24
  · have h := ifp q4 h
    refine lv_bipush (v := (-6)) hx hb dX12_allowed_7 (by decide) ?_
    refine lv_goto (tgt := 24) hx hb dX12_allowed_9 (by decide) ?_
    obtain ⟨rfl, rfl⟩ := Prod.mk.inj (Option.some.inj h)
    exact rt_i hF hr hk rfl (fun _ => 0) hW rfl dX12_allowed_24
set_option maxRecDepth 100000 in
set_option maxHeartbeats 1000000 in
theorem c_X12_why (l : Launch) (K : Kx) (a : Nat → Nat) {M M0 : Mem} {x1 : Int32} {r0 : Int32} (h : f_X12_why M x1 = some (r0, M0)) : CMi l yX12_why cX12_why 2 (some .int) ({ frames := 4, cells := 0, slots := 0, locals := 92 } : Room) K [.ref (a 0), .int x1] (wM K a M) (fun _ => wM K a M0) r0 := by
  refine cs_i (by decide +kernel) (Nat.le_of_ble_eq_true rfl) ?_
  intro p e s m args below meth c A ls hF hr hk hnm hW hl
  have hx := hF.1
  have hb := hF.2.1
  have hl : lv_has ls 2 [(0, .ref (a 0)), (1, .int x1)] := hl
  obtain ⟨H, hH⟩ : ∃ z, z = s.heap := ⟨_, rfl⟩
  rw [← hH] at hW ⊢
  unfold f_X12_why at h
  refine lv_iload_n hx hb dX12_why_0 rfl (lv_at hl 1 rfl) ?_
  refine lv_i2l hx hb dX12_why_1 rfl ?_
  refine lv_lconst (v := 0) hx hb dX12_why_2 (by decide) ?_
  refine lv_ldc2 hx hb hF.2.2.2.1 (hF.2.2.1 _ kl_X12_158) dX12_why_3 ?_
  obtain ⟨r1, hc3, h⟩ := bq_some h
  refine cS_i (rest := []) hF hW mw_X12_154 (c_X12_in l K hc3) ⟨Nat.le_of_ble_eq_true rfl, Nat.le_of_ble_eq_true rfl⟩ rfl hl.1 rfl (Nat.le_of_ble_eq_true rfl) dX12_why_6 ⟨Nat.le_of_ble_eq_true rfl, Nat.le_of_ble_eq_true rfl⟩ (fun _ H locs hW => ?_)
  refine lz_ne (tgt := 14) hx hb dX12_why_9 (by decide) (fun q4 => ?_) (fun q4 => ?_)
  · have h := ifp q4 h
    refine lv_aload_n hx hb dX12_why_14 rfl (lv_at hl 0 rfl) ?_
    obtain ⟨r5, M6, hc7, h⟩ := bd_some h
    refine cV_i (ci := 12) (q0 := 0) (rest := []) hF hW mw_X12_273 (c_X12_walk l K a hc7) ⟨Nat.le_of_ble_eq_true rfl, Nat.le_of_ble_eq_true rfl⟩ rfl rfl (pM_0 K a _) rfl hl.1 rfl (Nat.le_of_ble_eq_true rfl) dX12_why_15 ⟨Nat.le_of_ble_eq_true rfl, Nat.le_of_ble_eq_true rfl⟩ (fun _ H locs hW => ?_)
    refine lz_eq (tgt := 24) hx hb dX12_why_18 (by decide) (fun q8 => ?_) (fun q8 => ?_)
    · have h := ifn q8 h
      refine lv_aload_n hx hb dX12_why_24 rfl (lv_at hl 0 rfl) ?_
      obtain ⟨r9, M10, hc11, h⟩ := bd_some h
      refine cV_i (ci := 12) (q0 := 0) (rest := []) hF hW mw_X12_369 (c_X12_isAllowed l K a hc11) ⟨Nat.le_of_ble_eq_true rfl, Nat.le_of_ble_eq_true rfl⟩ rfl rfl (pM_0 K a _) rfl hl.1 rfl (Nat.le_of_ble_eq_true rfl) dX12_why_25 ⟨Nat.le_of_ble_eq_true rfl, Nat.le_of_ble_eq_true rfl⟩ (fun _ H locs hW => ?_)
      refine lz_eq (tgt := 36) hx hb dX12_why_28 (by decide) (fun q12 => ?_) (fun q12 => ?_)
      · have h := ifn q12 h
        refine lv_iload_n hx hb dX12_why_36 rfl (lv_at hl 1 rfl) ?_
        refine lv_if_ne (tgt := 47) hx hb dX12_why_37 (by decide) (fun q13 => ?_) (fun q13 => ?_)
        · have h := ifn q13 h
          refine lv_iload_n hx hb dX12_why_47 rfl (lv_at hl 1 rfl) ?_
          refine lv_iconst (v := 1) hx hb dX12_why_48 (by decide) ?_
          refine lv_icmp_ne (tgt := 59) hx hb dX12_why_49 (by decide) (fun q14 => ?_) (fun q14 => ?_)
          · have h := ifn q14 h
            refine lv_aload_n hx hb dX12_why_59 rfl (lv_at hl 0 rfl) ?_
            refine g_X12_366 hF hW dX12_why_60 ?_
            obtain ⟨rfl, rfl⟩ := Prod.mk.inj (Option.some.inj h)
            exact rt_i hF hr hk rfl (fun _ => 0) hW rfl dX12_why_63
          · have h := ifp q14 h
            refine lv_aload_n hx hb dX12_why_52 rfl (lv_at hl 0 rfl) ?_
            refine g_X12_363 hF hW dX12_why_53 ?_
            refine lv_goto (tgt := 63) hx hb dX12_why_56 (by decide) ?_
            obtain ⟨rfl, rfl⟩ := Prod.mk.inj (Option.some.inj h)
            exact rt_i hF hr hk rfl (fun _ => 0) hW rfl dX12_why_63
        · have h := ifp q13 h
          refine lv_aload_n hx hb dX12_why_40 rfl (lv_at hl 0 rfl) ?_
          refine g_X12_360 hF hW dX12_why_41 ?_
          refine lv_goto (tgt := 63) hx hb dX12_why_44 (by decide) ?_
          obtain ⟨rfl, rfl⟩ := Prod.mk.inj (Option.some.inj h)
          exact rt_i hF hr hk rfl (fun _ => 0) hW rfl dX12_why_63
      · have h := ifp q12 h
        refine lv_bipush (v := (-9)) hx hb dX12_why_31 (by decide) ?_
        refine lv_goto (tgt := 63) hx hb dX12_why_33 (by decide) ?_
        obtain ⟨rfl, rfl⟩ := Prod.mk.inj (Option.some.inj h)
        exact rt_i hF hr hk rfl (fun _ => 0) hW rfl dX12_why_63
    · have h := ifp q8 h
      refine lv_bipush (v := (-6)) hx hb dX12_why_21 (by decide) ?_
      obtain ⟨rfl, rfl⟩ := Prod.mk.inj (Option.some.inj h)
      exact rt_i hF hr hk rfl (fun _ => 0) hW rfl dX12_why_23
  · have h := ifn q4 h
    refine lv_iconst (v := (-1)) hx hb dX12_why_12 (by decide) ?_
    obtain ⟨rfl, rfl⟩ := Prod.mk.inj (Option.some.inj h)
    exact rt_i hF hr hk rfl (fun _ => 0) hW rfl dX12_why_13
set_option maxRecDepth 100000 in
set_option maxHeartbeats 1000000 in
theorem c_X12_doVisit (l : Launch) (K : Kx) (a : Nat → Nat) {M M0 : Mem} {x1 : Int32} {r0 : Int32} (h : f_X12_doVisit M x1 = some (r0, M0)) : CMi l yX12_doVisit cX12_doVisit 7 (some .int) ({ frames := 3, cells := 0, slots := 0, locals := 74 } : Room) K [.ref (a 0), .int x1] (wM K a M) (fun _ => wM K a M0) r0 := by
  refine cs_i (by decide +kernel) (Nat.le_of_ble_eq_true rfl) ?_
  intro p e s m args below meth c A ls hF hr hk hnm hW hl
  have hx := hF.1
  have hb := hF.2.1
  have hl : lv_has ls 7 [(0, .ref (a 0)), (1, .int x1)] := hl
  obtain ⟨H, hH⟩ : ∃ z, z = s.heap := ⟨_, rfl⟩
  rw [← hH] at hW ⊢
  have J24 : ∀ (n24 : Nat) (x1 : Int32) (x2 : Int32) (x3 : Int32) (M : Mem) (H : Heap) (locs : List Loc) (ls : Array Slot), f_X12_doVisit_24 n24 x1 x2 x3 M = some (r0, M0) → Wd K A s (wM K a M) H locs → lv_has ls 7 [(0, .ref (a 0)), (1, .int x1), (2, .int x2), (3, .int x3)] → W p l e ({ frames := 3, cells := 0, slots := 0, locals := 74 } : Room) s m args below meth c H locs 0 0 (EndI K A (fun _ => wM K a M0) r0 below args s ({ frames := 3, cells := 0, slots := 0, locals := 74 } : Room)) (F0 m 24 ls []) := by
    intro n24
    induction n24 with
    | zero => intro x1 x2 x3 M H locs ls h; exact absurd h (by simp [f_X12_doVisit_24])
    | succ n24 ih24 =>
      have J82 : ∀ (x1 : Int32) (x2 : Int32) (x3 : Int32) (x5 : Int64) (s1 : Int64) (M : Mem) (H : Heap) (locs : List Loc) (ls : Array Slot), f_X12_doVisit_82 (f_X12_doVisit_24 n24) x1 x2 x3 x5 s1 M = some (r0, M0) → Wd K A s (wM K a M) H locs → lv_has ls 7 [(0, .ref (a 0)), (1, .int x1), (2, .int x2), (3, .int x3), (5, .long x5)] → W p l e ({ frames := 3, cells := 0, slots := 0, locals := 74 } : Room) s m args below meth c H locs 0 0 (EndI K A (fun _ => wM K a M0) r0 below args s ({ frames := 3, cells := 0, slots := 0, locals := 74 } : Room)) (F0 m 82 ls [.long s1, .ref (a 0)]) := by
        intro x1 x2 x3 x5 s1 M H locs ls h hW hl
        unfold f_X12_doVisit_82 at h
        refine s_X12_372 (x := s1) hF hW dX12_doVisit_82 (fun H locs hW => ?_)
        refine lv_aload_n hx hb dX12_doVisit_85 rfl (lv_at hl 0 rfl) ?_
        refine lv_iload_n hx hb dX12_doVisit_86 rfl (lv_at hl 3 rfl) ?_
        refine lv_iconst (v := 2) hx hb dX12_doVisit_87 (by decide) ?_
        refine lv_icmp_ne (tgt := 96) hx hb dX12_doVisit_88 (by decide) (fun q22 => ?_) (fun q22 => ?_)
        · have h := ifn q22 h
          refine lv_aload_n hx hb dX12_doVisit_96 rfl (lv_at hl 0 rfl) ?_
          refine g_X12_375 hF hW dX12_doVisit_97 ?_
          refine s_X12_375 (x := ((sL M 113 0 s1).2.1 114 0)) hF hW dX12_doVisit_100 (fun H locs hW => ?_)
          refine lv_iinc (v := (x3 + 1)) (lv' := [(3, .int (x3 + 1)), (0, .ref (a 0)), (1, .int x1), (2, .int x2), (5, .long x5)]) hx hb dX12_doVisit_103 hl (k := 3) rfl rfl (by decide) rfl (fun ls hl => ?_)
          refine lv_goto (tgt := 24) hx hb dX12_doVisit_106 (by decide) ?_
          exact ih24 x1 x2 (x3 + 1) _ _ _ _ h hW (lv_sub hl [1, 2, 3, 0] rfl)
        · have h := ifp q22 h
          refine lv_lload hx hb dX12_doVisit_91 (lv_at hl 4 rfl) ?_
          refine lv_goto (tgt := 100) hx hb dX12_doVisit_93 (by decide) ?_
          refine s_X12_375 (x := x5) hF hW dX12_doVisit_100 (fun H locs hW => ?_)
          refine lv_iinc (v := (x3 + 1)) (lv' := [(3, .int (x3 + 1)), (0, .ref (a 0)), (1, .int x1), (2, .int x2), (5, .long x5)]) hx hb dX12_doVisit_103 hl (k := 3) rfl rfl (by decide) rfl (fun ls hl => ?_)
          refine lv_goto (tgt := 24) hx hb dX12_doVisit_106 (by decide) ?_
          exact ih24 x1 x2 (x3 + 1) _ _ _ _ h hW (lv_sub hl [1, 2, 3, 0] rfl)
      have J130 : ∀ (x1 : Int32) (x2 : Int32) (M : Mem) (H : Heap) (locs : List Loc) (ls : Array Slot), f_X12_doVisit_130 x1 x2 M = some (r0, M0) → Wd K A s (wM K a M) H locs → lv_has ls 7 [(0, .ref (a 0)), (1, .int x1), (2, .int x2)] → W p l e ({ frames := 3, cells := 0, slots := 0, locals := 74 } : Room) s m args below meth c H locs 0 0 (EndI K A (fun _ => wM K a M0) r0 below args s ({ frames := 3, cells := 0, slots := 0, locals := 74 } : Room)) (F0 m 130 ls []) := by
        intro x1 x2 M H locs ls h hW hl
        unfold f_X12_doVisit_130 at h
        refine lv_aload_n hx hb dX12_doVisit_130 rfl (lv_at hl 0 rfl) ?_
        refine lv_aload_n hx hb dX12_doVisit_131 rfl (lv_at hl 0 rfl) ?_
        refine g_X12_35 hF hW dX12_doVisit_132 ?_
        refine lv_iload_n hx hb dX12_doVisit_135 rfl (lv_at hl 2 rfl) ?_
        obtain ⟨q23, h⟩ := ck_some h
        refine w_ild hF hW (pM_9 K a _) q23 dX12_doVisit_136 ?_
        refine lv_aload_n hx hb dX12_doVisit_137 rfl (lv_at hl 0 rfl) ?_
        refine g_X12_38 hF hW dX12_doVisit_138 ?_
        refine lv_iload_n hx hb dX12_doVisit_141 rfl (lv_at hl 2 rfl) ?_
        obtain ⟨q24, h⟩ := ck_some h
        refine w_ild hF hW (pM_10 K a _) q24 dX12_doVisit_142 ?_
        obtain ⟨r25, hc27, h⟩ := bq_some h
        refine cV_l (ci := 12) (q0 := 0) (rest := []) hF hW mw_X12_384 (c_X12_workedOut l K a hc27) ⟨Nat.le_of_ble_eq_true rfl, Nat.le_of_ble_eq_true rfl⟩ rfl rfl (pM_0 K a _) rfl hl.1 rfl (Nat.le_of_ble_eq_true rfl) dX12_doVisit_143 ⟨Nat.le_of_ble_eq_true rfl, Nat.le_of_ble_eq_true rfl⟩ (fun _ H locs hW => ?_)
        refine lv_lstore_n (lv' := [(3, .long r25), (0, .ref (a 0)), (1, .int x1), (2, .int x2)]) hx hb dX12_doVisit_146 rfl hl (by decide) rfl (fun ls hl => ?_)
        refine lv_aload_n hx hb dX12_doVisit_147 rfl (lv_at hl 1 rfl) ?_
        refine lv_iload_n hx hb dX12_doVisit_148 rfl (lv_at hl 2 rfl) ?_
        refine lv_iconst (v := 0) hx hb dX12_doVisit_149 (by decide) ?_
        obtain ⟨r28, hc30, h⟩ := bq_some h
        refine cV_i (ci := 12) (q0 := 0) (rest := []) hF hW mw_X12_263 (c_X12_hasAim l K a hc30) ⟨Nat.le_of_ble_eq_true rfl, Nat.le_of_ble_eq_true rfl⟩ rfl rfl (pM_0 K a _) rfl hl.1 rfl (Nat.le_of_ble_eq_true rfl) dX12_doVisit_150 ⟨Nat.le_of_ble_eq_true rfl, Nat.le_of_ble_eq_true rfl⟩ (fun _ H locs hW => ?_)
        refine lz_eq (tgt := 200) hx hb dX12_doVisit_153 (by decide) (fun q31 => ?_) (fun q31 => ?_)
        · have h := ifn q31 h
          refine lv_iconst (v := 0) hx hb dX12_doVisit_200 (by decide) ?_
          obtain ⟨rfl, rfl⟩ := Prod.mk.inj (Option.some.inj h)
          exact rt_i hF hr hk rfl (fun _ => 0) hW rfl dX12_doVisit_201
        · have h := ifp q31 h
          refine lv_aload_n hx hb dX12_doVisit_156 rfl (lv_at hl 1 rfl) ?_
          refine lv_iload_n hx hb dX12_doVisit_157 rfl (lv_at hl 3 rfl) ?_
          refine lv_iconst (v := 0) hx hb dX12_doVisit_158 (by decide) ?_
          obtain ⟨r32, hc34, h⟩ := bq_some h
          refine cV_i (ci := 12) (q0 := 0) (rest := []) hF hW mw_X12_378 (c_X12_meetsAt l K a hc34) ⟨Nat.le_of_ble_eq_true rfl, Nat.le_of_ble_eq_true rfl⟩ rfl rfl (pM_0 K a _) rfl hl.1 rfl (Nat.le_of_ble_eq_true rfl) dX12_doVisit_159 ⟨Nat.le_of_ble_eq_true rfl, Nat.le_of_ble_eq_true rfl⟩ (fun _ H locs hW => ?_)
          refine lv_istore (lv' := [(5, .int r32), (3, .long r25), (0, .ref (a 0)), (1, .int x1), (2, .int x2)]) hx hb dX12_doVisit_162 hl (by decide) rfl (fun ls hl => ?_)
          refine lv_iload hx hb dX12_doVisit_164 (lv_at hl 0 rfl) ?_
          refine lv_if_le (tgt := 172) hx hb dX12_doVisit_166 (by decide) (fun q35 => ?_) (fun q35 => ?_)
          · have h := ifp q35 h
            refine lv_aload_n hx hb dX12_doVisit_172 rfl (lv_at hl 2 rfl) ?_
            refine g_X12_75 hF hW dX12_doVisit_173 ?_
            refine lv_aload_n hx hb dX12_doVisit_176 rfl (lv_at hl 2 rfl) ?_
            refine lv_iload_n hx hb dX12_doVisit_177 rfl (lv_at hl 4 rfl) ?_
            refine lv_iconst (v := 0) hx hb dX12_doVisit_178 (by decide) ?_
            obtain ⟨r36, hc38, h⟩ := bq_some h
            refine cV_i (ci := 12) (q0 := 0) (rest := [.ref (a 22)]) hF hW mw_X12_381 (c_X12_placeAt l K a hc38) ⟨Nat.le_of_ble_eq_true rfl, Nat.le_of_ble_eq_true rfl⟩ rfl rfl (pM_0 K a _) rfl hl.1 rfl (Nat.le_of_ble_eq_true rfl) dX12_doVisit_179 ⟨Nat.le_of_ble_eq_true rfl, Nat.le_of_ble_eq_true rfl⟩ (fun _ H locs hW => ?_)
            refine lv_aload_n hx hb dX12_doVisit_182 rfl (lv_at hl 2 rfl) ?_
            refine g_X12_66 hF hW dX12_doVisit_183 ?_
            refine lv_aload_n hx hb dX12_doVisit_186 rfl (lv_at hl 2 rfl) ?_
            refine g_X12_41 hF hW dX12_doVisit_187 ?_
            refine lv_iconst (v := 3) hx hb dX12_doVisit_190 (by decide) ?_
            refine lv_iload_n hx hb dX12_doVisit_191 rfl (lv_at hl 4 rfl) ?_
            refine lv_imul hx hb dX12_doVisit_192 ?_
            obtain ⟨q39, h⟩ := ck_some h
            refine w_ild hF hW (pM_11 K a _) q39 dX12_doVisit_193 ?_
            obtain ⟨q40, h⟩ := ck_some h
            refine w_ild hF hW (pM_19 K a _) q40 dX12_doVisit_194 ?_
            refine lv_lload_n hx hb dX12_doVisit_195 rfl (lv_at hl 1 rfl) ?_
            obtain ⟨r41, hc43, h⟩ := bq_some h
            refine cS_l (rest := [.int r36, .ref (a 22)]) hF hW mw_X12_224 (c_X12_cut l K hc43) ⟨Nat.le_of_ble_eq_true rfl, Nat.le_of_ble_eq_true rfl⟩ rfl hl.1 rfl (Nat.le_of_ble_eq_true rfl) dX12_doVisit_196 ⟨Nat.le_of_ble_eq_true rfl, Nat.le_of_ble_eq_true rfl⟩ (fun _ H locs hW => ?_)
            obtain ⟨q44, h⟩ := ck_some h
            refine w_lst hF hW (pM_22 K a _) q44 (uM_22 K a _ _ _) dX12_doVisit_199 (fun H locs hW => ?_)
            refine lv_iconst (v := 0) hx hb dX12_doVisit_200 (by decide) ?_
            obtain ⟨rfl, rfl⟩ := Prod.mk.inj (Option.some.inj h)
            exact rt_i hF hr hk rfl (fun _ => 0) hW rfl dX12_doVisit_201
          · have h := ifn q35 h
            refine lv_iload hx hb dX12_doVisit_169 (lv_at hl 0 rfl) ?_
            obtain ⟨rfl, rfl⟩ := Prod.mk.inj (Option.some.inj h)
            exact rt_i hF hr hk rfl (fun _ => 0) hW rfl dX12_doVisit_171
      intro x1 x2 x3 M H locs ls h hW hl
      rw [f_X12_doVisit_24] at h
      refine lv_iload_n hx hb dX12_doVisit_24 rfl (lv_at hl 3 rfl) ?_
      refine lv_iconst (v := 3) hx hb dX12_doVisit_25 (by decide) ?_
      refine lv_icmp_ge (tgt := 109) hx hb dX12_doVisit_26 (by decide) (fun q5 => ?_) (fun q5 => ?_)
      · have h := ifp q5 h
        refine lv_aload_n hx hb dX12_doVisit_109 rfl (lv_at hl 0 rfl) ?_
        refine g_X12_35 hF hW dX12_doVisit_110 ?_
        refine lv_iload_n hx hb dX12_doVisit_113 rfl (lv_at hl 2 rfl) ?_
        obtain ⟨q6, h⟩ := ck_some h
        refine w_ild hF hW (pM_9 K a _) q6 dX12_doVisit_114 ?_
        refine lv_iconst (v := 3) hx hb dX12_doVisit_115 (by decide) ?_
        refine lv_icmp_ne (tgt := 130) hx hb dX12_doVisit_116 (by decide) (fun q7 => ?_) (fun q7 => ?_)
        · have h := ifn q7 h
          exact J130 x1 x2 _ _ _ _ h hW (lv_sub hl [0, 1, 2] rfl)
        · have h := ifp q7 h
          refine lv_aload_n hx hb dX12_doVisit_119 rfl (lv_at hl 0 rfl) ?_
          refine g_X12_375 hF hW dX12_doVisit_120 ?_
          refine lv_lconst (v := 0) hx hb dX12_doVisit_123 (by decide) ?_
          refine ll_ne (tgt := 130) hx hb dX12_doVisit_124 dX12_doVisit_125 (by decide) (fun q8 => ?_) (fun q8 => ?_)
          · have h := ifn q8 h
            exact J130 x1 x2 _ _ _ _ h hW (lv_sub hl [0, 1, 2] rfl)
          · have h := ifp q8 h
            refine lv_iconst (v := 4) hx hb dX12_doVisit_128 (by decide) ?_
            obtain ⟨rfl, rfl⟩ := Prod.mk.inj (Option.some.inj h)
            exact rt_i hF hr hk rfl (fun _ => 0) hW rfl dX12_doVisit_129
      · have h := ifn q5 h
        refine lv_aload_n hx hb dX12_doVisit_29 rfl (lv_at hl 0 rfl) ?_
        refine lv_iload_n hx hb dX12_doVisit_30 rfl (lv_at hl 1 rfl) ?_
        refine lv_iload_n hx hb dX12_doVisit_31 rfl (lv_at hl 3 rfl) ?_
        obtain ⟨r9, hc11, h⟩ := bq_some h
        refine cV_i (ci := 12) (q0 := 0) (rest := []) hF hW mw_X12_263 (c_X12_hasAim l K a hc11) ⟨Nat.le_of_ble_eq_true rfl, Nat.le_of_ble_eq_true rfl⟩ rfl rfl (pM_0 K a _) rfl hl.1 rfl (Nat.le_of_ble_eq_true rfl) dX12_doVisit_32 ⟨Nat.le_of_ble_eq_true rfl, Nat.le_of_ble_eq_true rfl⟩ (fun _ H locs hW => ?_)
        refine lz_eq (tgt := 103) hx hb dX12_doVisit_35 (by decide) (fun q12 => ?_) (fun q12 => ?_)
        · have h := ifn q12 h
          refine lv_iinc (v := (x3 + 1)) (lv' := [(3, .int (x3 + 1)), (0, .ref (a 0)), (1, .int x1), (2, .int x2)]) hx hb dX12_doVisit_103 hl (k := 3) rfl rfl (by decide) rfl (fun ls hl => ?_)
          refine lv_goto (tgt := 24) hx hb dX12_doVisit_106 (by decide) ?_
          exact ih24 x1 x2 (x3 + 1) _ _ _ _ h hW (lv_sub hl [1, 2, 3, 0] rfl)
        · have h := ifp q12 h
          refine lv_aload_n hx hb dX12_doVisit_38 rfl (lv_at hl 0 rfl) ?_
          refine lv_iload_n hx hb dX12_doVisit_39 rfl (lv_at hl 2 rfl) ?_
          refine lv_iload_n hx hb dX12_doVisit_40 rfl (lv_at hl 3 rfl) ?_
          obtain ⟨r13, hc15, h⟩ := bq_some h
          refine cV_i (ci := 12) (q0 := 0) (rest := []) hF hW mw_X12_378 (c_X12_meetsAt l K a hc15) ⟨Nat.le_of_ble_eq_true rfl, Nat.le_of_ble_eq_true rfl⟩ rfl rfl (pM_0 K a _) rfl hl.1 rfl (Nat.le_of_ble_eq_true rfl) dX12_doVisit_41 ⟨Nat.le_of_ble_eq_true rfl, Nat.le_of_ble_eq_true rfl⟩ (fun _ H locs hW => ?_)
          refine lv_istore (lv' := [(4, .int r13), (0, .ref (a 0)), (1, .int x1), (2, .int x2), (3, .int x3)]) hx hb dX12_doVisit_44 hl (by decide) rfl (fun ls hl => ?_)
          refine lv_iload hx hb dX12_doVisit_46 (lv_at hl 0 rfl) ?_
          refine lv_if_le (tgt := 54) hx hb dX12_doVisit_48 (by decide) (fun q16 => ?_) (fun q16 => ?_)
          · have h := ifp q16 h
            refine lv_aload_n hx hb dX12_doVisit_54 rfl (lv_at hl 1 rfl) ?_
            refine g_X12_75 hF hW dX12_doVisit_55 ?_
            refine lv_aload_n hx hb dX12_doVisit_58 rfl (lv_at hl 1 rfl) ?_
            refine lv_iload_n hx hb dX12_doVisit_59 rfl (lv_at hl 3 rfl) ?_
            refine lv_iload_n hx hb dX12_doVisit_60 rfl (lv_at hl 4 rfl) ?_
            obtain ⟨r17, hc19, h⟩ := bq_some h
            refine cV_i (ci := 12) (q0 := 0) (rest := [.ref (a 22)]) hF hW mw_X12_381 (c_X12_placeAt l K a hc19) ⟨Nat.le_of_ble_eq_true rfl, Nat.le_of_ble_eq_true rfl⟩ rfl rfl (pM_0 K a _) rfl hl.1 rfl (Nat.le_of_ble_eq_true rfl) dX12_doVisit_61 ⟨Nat.le_of_ble_eq_true rfl, Nat.le_of_ble_eq_true rfl⟩ (fun _ H locs hW => ?_)
            obtain ⟨q20, h⟩ := ck_some h
            refine w_lld hF hW (pM_22 K a _) q20 dX12_doVisit_64 ?_
            refine lv_lstore (lv' := [(5, .long (M.2.1 22 r17.toNatClampNeg)), (4, .int r13), (0, .ref (a 0)), (1, .int x1), (2, .int x2), (3, .int x3)]) hx hb dX12_doVisit_65 hl (by decide) rfl (fun ls hl => ?_)
            refine lv_aload_n hx hb dX12_doVisit_67 rfl (lv_at hl 2 rfl) ?_
            refine lv_iload_n hx hb dX12_doVisit_68 rfl (lv_at hl 5 rfl) ?_
            refine lv_iconst (v := 1) hx hb dX12_doVisit_69 (by decide) ?_
            refine lv_icmp_ne (tgt := 78) hx hb dX12_doVisit_70 (by decide) (fun q21 => ?_) (fun q21 => ?_)
            · have h := ifn q21 h
              refine lv_aload_n hx hb dX12_doVisit_78 rfl (lv_at hl 2 rfl) ?_
              refine g_X12_372 hF hW dX12_doVisit_79 ?_
              exact J82 x1 x2 x3 (M.2.1 22 r17.toNatClampNeg) (M.2.1 113 0) _ _ _ _ h hW (lv_sub hl [2, 3, 4, 5, 0] rfl)
            · have h := ifp q21 h
              refine lv_lload hx hb dX12_doVisit_73 (lv_at hl 0 rfl) ?_
              refine lv_goto (tgt := 82) hx hb dX12_doVisit_75 (by decide) ?_
              exact J82 x1 x2 x3 (M.2.1 22 r17.toNatClampNeg) (M.2.1 22 r17.toNatClampNeg) _ _ _ _ h hW (lv_sub hl [2, 3, 4, 5, 0] rfl)
          · have h := ifn q16 h
            refine lv_iload hx hb dX12_doVisit_51 (lv_at hl 0 rfl) ?_
            obtain ⟨rfl, rfl⟩ := Prod.mk.inj (Option.some.inj h)
            exact rt_i hF hr hk rfl (fun _ => 0) hW rfl dX12_doVisit_53
  unfold f_X12_doVisit at h
  refine lv_aload_n hx hb dX12_doVisit_0 rfl (lv_at hl 0 rfl) ?_
  refine lv_iload_n hx hb dX12_doVisit_1 rfl (lv_at hl 1 rfl) ?_
  obtain ⟨M2, hc3, h⟩ := bm_some h
  refine cV_v (ci := 12) (q0 := 0) (rest := []) hF hW mw_X12_260 (c_X12_lettersOf l K a hc3) ⟨Nat.le_of_ble_eq_true rfl, Nat.le_of_ble_eq_true rfl⟩ rfl rfl (pM_0 K a _) rfl hl.1 rfl (Nat.le_of_ble_eq_true rfl) dX12_doVisit_2 ⟨Nat.le_of_ble_eq_true rfl, Nat.le_of_ble_eq_true rfl⟩ (fun _ H locs hW => ?_)
  refine lv_aload_n hx hb dX12_doVisit_5 rfl (lv_at hl 0 rfl) ?_
  refine g_X12_78 hF hW dX12_doVisit_6 ?_
  refine lv_iload_n hx hb dX12_doVisit_9 rfl (lv_at hl 1 rfl) ?_
  obtain ⟨q4, h⟩ := ck_some h
  refine w_ild hF hW (pM_23 K a _) q4 dX12_doVisit_10 ?_
  refine lv_istore_n (lv' := [(2, .int (M2.1 23 x1.toNatClampNeg)), (0, .ref (a 0)), (1, .int x1)]) hx hb dX12_doVisit_11 rfl hl (by decide) rfl (fun ls hl => ?_)
  refine lv_aload_n hx hb dX12_doVisit_12 rfl (lv_at hl 1 rfl) ?_
  refine lv_lconst (v := 0) hx hb dX12_doVisit_13 (by decide) ?_
  refine s_X12_372 (x := 0) hF hW dX12_doVisit_14 (fun H locs hW => ?_)
  refine lv_aload_n hx hb dX12_doVisit_17 rfl (lv_at hl 1 rfl) ?_
  refine lv_lconst (v := 0) hx hb dX12_doVisit_18 (by decide) ?_
  refine s_X12_375 (x := 0) hF hW dX12_doVisit_19 (fun H locs hW => ?_)
  refine lv_iconst (v := 1) hx hb dX12_doVisit_22 (by decide) ?_
  refine lv_istore_n (lv' := [(3, .int 1), (2, .int (M2.1 23 x1.toNatClampNeg)), (0, .ref (a 0)), (1, .int x1)]) hx hb dX12_doVisit_23 rfl hl (by decide) rfl (fun ls hl => ?_)
  exact J24 100000 x1 (M2.1 23 x1.toNatClampNeg) 1 _ _ _ _ h hW (lv_sub hl [2, 3, 1, 0] rfl)
set_option maxRecDepth 100000 in
set_option maxHeartbeats 1000000 in
theorem c_X12_run (l : Launch) (K : Kx) (a : Nat → Nat) {M M0 : Mem} {x1 : Bool} {r0 : Int32} (h : f_X12_run M x1 = some (r0, M0)) : CMi l yX12_run cX12_run 6 (some .int) ({ frames := 4, cells := 0, slots := 0, locals := 100 } : Room) K [.ref (a 0), .int (bI x1)] (wM K a M) (fun _ => wM K a M0) r0 := by
  refine cs_i (by decide +kernel) (Nat.le_of_ble_eq_true rfl) ?_
  intro p e s m args below meth c A ls hF hr hk hnm hW hl
  have hx := hF.1
  have hb := hF.2.1
  have hl : lv_has ls 6 [(0, .ref (a 0)), (1, .int (bI x1))] := hl
  obtain ⟨H, hH⟩ : ∃ z, z = s.heap := ⟨_, rfl⟩
  rw [← hH] at hW ⊢
  have J20 : ∀ (n20 : Nat) (x1 : Bool) (x2 : Int32) (M : Mem) (H : Heap) (locs : List Loc) (ls : Array Slot), f_X12_run_20 n20 x1 x2 M = some (r0, M0) → Wd K A s (wM K a M) H locs → lv_has ls 6 [(0, .ref (a 0)), (1, .int (bI x1)), (2, .int x2)] → W p l e ({ frames := 4, cells := 0, slots := 0, locals := 100 } : Room) s m args below meth c H locs 0 0 (EndI K A (fun _ => wM K a M0) r0 below args s ({ frames := 4, cells := 0, slots := 0, locals := 100 } : Room)) (F0 m 20 ls []) := by
    intro n20
    induction n20 with
    | zero => intro x1 x2 M H locs ls h; exact absurd h (by simp [f_X12_run_20])
    | succ n20 ih20 =>
      have J42 : ∀ (n42 : Nat) (x1 : Bool) (x2 : Int32) (M : Mem) (H : Heap) (locs : List Loc) (ls : Array Slot), f_X12_run_42 n42 x1 x2 M = some (r0, M0) → Wd K A s (wM K a M) H locs → lv_has ls 6 [(0, .ref (a 0)), (1, .int (bI x1)), (2, .int x2)] → W p l e ({ frames := 4, cells := 0, slots := 0, locals := 100 } : Room) s m args below meth c H locs 0 0 (EndI K A (fun _ => wM K a M0) r0 below args s ({ frames := 4, cells := 0, slots := 0, locals := 100 } : Room)) (F0 m 42 ls []) := by
        intro n42
        induction n42 with
        | zero => intro x1 x2 M H locs ls h; exact absurd h (by simp [f_X12_run_42])
        | succ n42 ih42 =>
          have J64 : ∀ (x1 : Bool) (x2 : Int32) (s0 : Int32) (M : Mem) (H : Heap) (locs : List Loc) (ls : Array Slot), f_X12_run_64 (f_X12_run_42 n42) x1 x2 s0 M = some (r0, M0) → Wd K A s (wM K a M) H locs → lv_has ls 6 [(0, .ref (a 0)), (1, .int (bI x1)), (2, .int x2)] → W p l e ({ frames := 4, cells := 0, slots := 0, locals := 100 } : Room) s m args below meth c H locs 0 0 (EndI K A (fun _ => wM K a M0) r0 below args s ({ frames := 4, cells := 0, slots := 0, locals := 100 } : Room)) (F0 m 64 ls [.int s0]) := by
            have J99 : ∀ (n99 : Nat) (x3 : Int32) (x4 : Int32) (x5 : Int32) (M : Mem) (H : Heap) (locs : List Loc) (ls : Array Slot), f_X12_run_99 n99 x3 x4 x5 M = some (r0, M0) → Wd K A s (wM K a M) H locs → lv_has ls 6 [(0, .ref (a 0)), (3, .int x3), (4, .int x4), (5, .int x5)] → W p l e ({ frames := 4, cells := 0, slots := 0, locals := 100 } : Room) s m args below meth c H locs 0 0 (EndI K A (fun _ => wM K a M0) r0 below args s ({ frames := 4, cells := 0, slots := 0, locals := 100 } : Room)) (F0 m 99 ls []) := by
              intro n99
              induction n99 with
              | zero => intro x3 x4 x5 M H locs ls h; exact absurd h (by simp [f_X12_run_99])
              | succ n99 ih99 =>
                intro x3 x4 x5 M H locs ls h hW hl
                rw [f_X12_run_99] at h
                refine lv_iload hx hb dX12_run_99 (lv_at hl 3 rfl) ?_
                refine lv_iconst (v := 4) hx hb dX12_run_101 (by decide) ?_
                refine lv_icmp_ge (tgt := 136) hx hb dX12_run_102 (by decide) (fun q22 => ?_) (fun q22 => ?_)
                · have h := ifp q22 h
                  refine lv_aload_n hx hb dX12_run_136 rfl (lv_at hl 0 rfl) ?_
                  refine lv_iload hx hb dX12_run_137 (lv_at hl 2 rfl) ?_
                  obtain ⟨r23, M24, hc25, h⟩ := bd_some h
                  refine cV_i (ci := 12) (q0 := 0) (rest := []) hF hW mw_X12_207 (c_X12_meets l K a hc25) ⟨Nat.le_of_ble_eq_true rfl, Nat.le_of_ble_eq_true rfl⟩ rfl rfl (pM_0 K a _) rfl hl.1 rfl (Nat.le_of_ble_eq_true rfl) dX12_run_139 ⟨Nat.le_of_ble_eq_true rfl, Nat.le_of_ble_eq_true rfl⟩ (fun _ H locs hW => ?_)
                  obtain ⟨rfl, rfl⟩ := Prod.mk.inj (Option.some.inj h)
                  exact rt_i hF hr hk rfl (fun _ => 0) hW rfl dX12_run_142
                · have h := ifn q22 h
                  refine lv_aload_n hx hb dX12_run_105 rfl (lv_at hl 0 rfl) ?_
                  refine g_X12_130 hF hW dX12_run_106 ?_
                  refine lv_iconst (v := 2) hx hb dX12_run_109 (by decide) ?_
                  refine lv_iload hx hb dX12_run_110 (lv_at hl 3 rfl) ?_
                  refine lv_iadd hx hb dX12_run_112 ?_
                  refine lv_ldc2 hx hb hF.2.2.2.1 (hF.2.2.1 _ kl_X12_280) dX12_run_113 ?_
                  refine lv_aload_n hx hb dX12_run_116 rfl (lv_at hl 0 rfl) ?_
                  refine g_X12_81 hF hW dX12_run_117 ?_
                  refine lv_iconst (v := 4) hx hb dX12_run_120 (by decide) ?_
                  refine lv_iload_n hx hb dX12_run_121 rfl (lv_at hl 1 rfl) ?_
                  refine lv_imul hx hb dX12_run_122 ?_
                  refine lv_iload hx hb dX12_run_123 (lv_at hl 3 rfl) ?_
                  refine lv_iadd hx hb dX12_run_125 ?_
                  obtain ⟨q26, h⟩ := ck_some h
                  refine w_lld hF hW (pM_24 K a _) q26 dX12_run_126 ?_
                  refine lv_ladd hx hb dX12_run_127 ?_
                  refine lv_l2i hx hb dX12_run_128 rfl ?_
                  obtain ⟨q27, h⟩ := ck_some h
                  refine w_ist hF hW (pM_40 K a _) q27 (uM_40 K a _ _ _) dX12_run_129 (fun H locs hW => ?_)
                  refine lv_iinc (v := (x5 + 1)) (lv' := [(5, .int (x5 + 1)), (0, .ref (a 0)), (3, .int x3), (4, .int x4)]) hx hb dX12_run_130 hl (k := 3) rfl rfl (by decide) rfl (fun ls hl => ?_)
                  refine lv_goto (tgt := 99) hx hb dX12_run_133 (by decide) ?_
                  exact ih99 x3 x4 (x5 + 1) _ _ _ _ h hW (lv_sub hl [1, 2, 3, 0] rfl)
            intro x1 x2 s0 M H locs ls h hW hl
            unfold f_X12_run_64 at h
            refine lv_istore_n (lv' := [(3, .int s0), (0, .ref (a 0)), (1, .int (bI x1)), (2, .int x2)]) hx hb dX12_run_64 rfl hl (by decide) rfl (fun ls hl => ?_)
            refine lv_aload_n hx hb dX12_run_65 rfl (lv_at hl 1 rfl) ?_
            refine lv_iload_n hx hb dX12_run_66 rfl (lv_at hl 0 rfl) ?_
            obtain ⟨r15, M16, hc17, h⟩ := bd_some h
            refine cV_i (ci := 12) (q0 := 0) (rest := []) hF hW mw_X12_390 (c_X12_doVisit l K a hc17) ⟨Nat.le_of_ble_eq_true rfl, Nat.le_of_ble_eq_true rfl⟩ rfl rfl (pM_0 K a _) rfl hl.1 rfl (Nat.le_of_ble_eq_true rfl) dX12_run_67 ⟨Nat.le_of_ble_eq_true rfl, Nat.le_of_ble_eq_true rfl⟩ (fun _ H locs hW => ?_)
            refine lv_istore (lv' := [(4, .int r15), (3, .int s0), (0, .ref (a 0)), (1, .int (bI x1)), (2, .int x2)]) hx hb dX12_run_70 hl (by decide) rfl (fun ls hl => ?_)
            refine lv_iload hx hb dX12_run_72 (lv_at hl 0 rfl) ?_
            refine lv_if_le (tgt := 143) hx hb dX12_run_74 (by decide) (fun q18 => ?_) (fun q18 => ?_)
            · have h := ifp q18 h
              refine lv_iinc (v := (x2 + 1)) (lv' := [(2, .int (x2 + 1)), (4, .int r15), (3, .int s0), (0, .ref (a 0)), (1, .int (bI x1))]) hx hb dX12_run_143 hl (k := 4) rfl rfl (by decide) rfl (fun ls hl => ?_)
              refine lv_goto (tgt := 42) hx hb dX12_run_146 (by decide) ?_
              exact ih42 x1 (x2 + 1) _ _ _ _ h hW (lv_sub hl [3, 4, 0] rfl)
            · have h := ifn q18 h
              refine lv_aload_n hx hb dX12_run_77 rfl (lv_at hl 2 rfl) ?_
              refine g_X12_130 hF hW dX12_run_78 ?_
              refine lv_iconst (v := 0) hx hb dX12_run_81 (by decide) ?_
              refine lv_iload_n hx hb dX12_run_82 rfl (lv_at hl 4 rfl) ?_
              obtain ⟨q19, h⟩ := ck_some h
              refine w_ist hF hW (pM_40 K a _) q19 (uM_40 K a _ _ _) dX12_run_83 (fun H locs hW => ?_)
              refine lv_aload_n hx hb dX12_run_84 rfl (lv_at hl 2 rfl) ?_
              refine g_X12_130 hF hW dX12_run_85 ?_
              refine lv_iconst (v := 1) hx hb dX12_run_88 (by decide) ?_
              refine lv_aload_n hx hb dX12_run_89 rfl (lv_at hl 2 rfl) ?_
              refine g_X12_78 hF hW dX12_run_90 ?_
              refine lv_iload_n hx hb dX12_run_93 rfl (lv_at hl 1 rfl) ?_
              obtain ⟨q20, h⟩ := ck_some h
              refine w_ild hF hW (pM_23 K a _) q20 dX12_run_94 ?_
              obtain ⟨q21, h⟩ := ck_some h
              refine w_ist hF hW (pM_40 K a _) q21 (uM_40 K a _ _ _) dX12_run_95 (fun H locs hW => ?_)
              refine lv_iconst (v := 0) hx hb dX12_run_96 (by decide) ?_
              refine lv_istore (lv' := [(5, .int 0), (4, .int r15), (3, .int s0), (0, .ref (a 0)), (1, .int (bI x1)), (2, .int x2)]) hx hb dX12_run_97 hl (by decide) rfl (fun ls hl => ?_)
              exact J99 100000 s0 r15 0 _ _ _ _ h hW (lv_sub hl [3, 2, 1, 0] rfl)
          intro x1 x2 M H locs ls h hW hl
          rw [f_X12_run_42] at h
          refine lv_iload_n hx hb dX12_run_42 rfl (lv_at hl 2 rfl) ?_
          refine lv_aload_n hx hb dX12_run_43 rfl (lv_at hl 0 rfl) ?_
          refine g_X12_239 hF hW dX12_run_44 ?_
          refine lv_icmp_ge (tgt := 149) hx hb dX12_run_47 (by decide) (fun q11 => ?_) (fun q11 => ?_)
          · have h := ifp q11 h
            refine lv_aload_n hx hb dX12_run_149 rfl (lv_at hl 0 rfl) ?_
            refine g_X12_130 hF hW dX12_run_150 ?_
            refine lv_iconst (v := 0) hx hb dX12_run_153 (by decide) ?_
            refine lv_aload_n hx hb dX12_run_154 rfl (lv_at hl 0 rfl) ?_
            refine g_X12_239 hF hW dX12_run_155 ?_
            obtain ⟨q12, h⟩ := ck_some h
            refine w_ist hF hW (pM_40 K a _) q12 (uM_40 K a _ _ _) dX12_run_158 (fun H locs hW => ?_)
            refine lv_aload_n hx hb dX12_run_159 rfl (lv_at hl 0 rfl) ?_
            refine g_X12_239 hF hW dX12_run_160 ?_
            obtain ⟨rfl, rfl⟩ := Prod.mk.inj (Option.some.inj h)
            exact rt_i hF hr hk rfl (fun _ => 0) hW rfl dX12_run_163
          · have h := ifn q11 h
            refine lv_iload_n hx hb dX12_run_50 rfl (lv_at hl 1 rfl) ?_
            refine lz_eq (tgt := 63) hx hb dX12_run_51 (by decide) (fun q13 => ?_) (fun q13 => ?_)
            · have h := ifn q13 h
              refine lv_iload_n hx hb dX12_run_63 rfl (lv_at hl 2 rfl) ?_
              exact J64 x1 x2 x2 _ _ _ _ h hW (lv_sub hl [0, 1, 2] rfl)
            · have h := ifp q13 h
              refine lv_aload_n hx hb dX12_run_54 rfl (lv_at hl 0 rfl) ?_
              refine g_X12_124 hF hW dX12_run_55 ?_
              refine lv_iload_n hx hb dX12_run_58 rfl (lv_at hl 2 rfl) ?_
              obtain ⟨q14, h⟩ := ck_some h
              refine w_ild hF hW (pM_38 K a _) q14 dX12_run_59 ?_
              refine lv_goto (tgt := 64) hx hb dX12_run_60 (by decide) ?_
              exact J64 x1 x2 (M.1 38 x2.toNatClampNeg) _ _ _ _ h hW (lv_sub hl [0, 1, 2] rfl)
      intro x1 x2 M H locs ls h hW hl
      rw [f_X12_run_20] at h
      refine lv_iload_n hx hb dX12_run_20 rfl (lv_at hl 2 rfl) ?_
      refine lv_bipush (v := 6) hx hb dX12_run_21 (by decide) ?_
      refine lv_icmp_ge (tgt := 40) hx hb dX12_run_23 (by decide) (fun q9 => ?_) (fun q9 => ?_)
      · have h := ifp q9 h
        refine lv_iconst (v := 0) hx hb dX12_run_40 (by decide) ?_
        refine lv_istore_n (lv' := [(2, .int 0), (0, .ref (a 0)), (1, .int (bI x1))]) hx hb dX12_run_41 rfl hl (by decide) rfl (fun ls hl => ?_)
        exact J42 100000 x1 0 _ _ _ _ h hW (lv_sub hl [1, 2, 0] rfl)
      · have h := ifn q9 h
        refine lv_aload_n hx hb dX12_run_26 rfl (lv_at hl 0 rfl) ?_
        refine g_X12_130 hF hW dX12_run_27 ?_
        refine lv_iload_n hx hb dX12_run_30 rfl (lv_at hl 2 rfl) ?_
        refine lv_bipush (v := (-9)) hx hb dX12_run_31 (by decide) ?_
        obtain ⟨q10, h⟩ := ck_some h
        refine w_ist hF hW (pM_40 K a _) q10 (uM_40 K a _ _ _) dX12_run_33 (fun H locs hW => ?_)
        refine lv_iinc (v := (x2 + 1)) (lv' := [(2, .int (x2 + 1)), (0, .ref (a 0)), (1, .int (bI x1))]) hx hb dX12_run_34 hl (k := 2) rfl rfl (by decide) rfl (fun ls hl => ?_)
        refine lv_goto (tgt := 20) hx hb dX12_run_37 (by decide) ?_
        exact ih20 x1 (x2 + 1) _ _ _ _ h hW (lv_sub hl [1, 2, 0] rfl)
  unfold f_X12_run at h
  refine lv_aload_n hx hb dX12_run_0 rfl (lv_at hl 0 rfl) ?_
  obtain ⟨r1, M2, hc3, h⟩ := bd_some h
  refine cV_i (ci := 12) (q0 := 0) (rest := []) hF hW mw_X12_273 (c_X12_walk l K a hc3) ⟨Nat.le_of_ble_eq_true rfl, Nat.le_of_ble_eq_true rfl⟩ rfl rfl (pM_0 K a _) rfl hl.1 rfl (Nat.le_of_ble_eq_true rfl) dX12_run_1 ⟨Nat.le_of_ble_eq_true rfl, Nat.le_of_ble_eq_true rfl⟩ (fun _ H locs hW => ?_)
  refine lz_eq (tgt := 10) hx hb dX12_run_4 (by decide) (fun q4 => ?_) (fun q4 => ?_)
  · have h := ifn q4 h
    refine lv_iload_n hx hb dX12_run_10 rfl (lv_at hl 1 rfl) ?_
    refine lz_eq (tgt := 18) hx hb dX12_run_11 (by decide) (fun q5 => ?_) (fun q5 => ?_)
    · have h := ifn q5 h
      refine lv_iconst (v := 1) hx hb dX12_run_18 (by decide) ?_
      refine lv_istore_n (lv' := [(2, .int 1), (0, .ref (a 0)), (1, .int (bI x1))]) hx hb dX12_run_19 rfl hl (by decide) rfl (fun ls hl => ?_)
      exact J20 100000 x1 1 _ _ _ _ h hW (lv_sub hl [1, 2, 0] rfl)
    · have h := ifp q5 h
      refine lv_aload_n hx hb dX12_run_14 rfl (lv_at hl 0 rfl) ?_
      obtain ⟨M7, hc8, h⟩ := bm_some h
      refine cV_v (ci := 12) (q0 := 0) (rest := []) hF hW mw_X12_277 (c_X12_layOrder l K a hc8) ⟨Nat.le_of_ble_eq_true rfl, Nat.le_of_ble_eq_true rfl⟩ rfl rfl (pM_0 K a _) rfl hl.1 rfl (Nat.le_of_ble_eq_true rfl) dX12_run_15 ⟨Nat.le_of_ble_eq_true rfl, Nat.le_of_ble_eq_true rfl⟩ (fun _ H locs hW => ?_)
      refine lv_iconst (v := 1) hx hb dX12_run_18 (by decide) ?_
      refine lv_istore_n (lv' := [(2, .int 1), (0, .ref (a 0)), (1, .int (bI x1))]) hx hb dX12_run_19 rfl hl (by decide) rfl (fun ls hl => ?_)
      exact J20 100000 x1 1 _ _ _ _ h hW (lv_sub hl [1, 2, 0] rfl)
  · have h := ifp q4 h
    refine lv_bipush (v := (-6)) hx hb dX12_run_7 (by decide) ?_
    obtain ⟨rfl, rfl⟩ := Prod.mk.inj (Option.some.inj h)
    exact rt_i hF hr hk rfl (fun _ => 0) hW rfl dX12_run_9
set_option maxRecDepth 100000 in
set_option maxHeartbeats 1000000 in
theorem c_X12_fetched (l : Launch) (K : Kx) (a : Nat → Nat) {M M0 : Mem} {x1 : Int32} {x2 : Int32} {r0 : Int32} (h : f_X12_fetched M x1 x2 = some (r0, M0)) : CMi l yX12_fetched cX12_fetched 3 (some .int) ({ frames := 2, cells := 0, slots := 0, locals := 57 } : Room) K [.ref (a 0), .int x1, .int x2] (wM K a M) (fun _ => wM K a M0) r0 := by
  refine cs_i (by decide +kernel) (Nat.le_of_ble_eq_true rfl) ?_
  intro p e s m args below meth c A ls hF hr hk hnm hW hl
  have hx := hF.1
  have hb := hF.2.1
  have hl : lv_has ls 3 [(0, .ref (a 0)), (1, .int x1), (2, .int x2)] := hl
  obtain ⟨H, hH⟩ : ∃ z, z = s.heap := ⟨_, rfl⟩
  rw [← hH] at hW ⊢
  unfold f_X12_fetched at h
  refine lv_iload_n hx hb dX12_fetched_0 rfl (lv_at hl 1 rfl) ?_
  refine lv_i2l hx hb dX12_fetched_1 rfl ?_
  refine lv_lconst (v := 1) hx hb dX12_fetched_2 (by decide) ?_
  refine lv_ldc2 hx hb hF.2.2.2.1 (hF.2.2.1 _ kl_X12_400) dX12_fetched_3 ?_
  obtain ⟨r1, hc3, h⟩ := bq_some h
  refine cS_i (rest := []) hF hW mw_X12_154 (c_X12_in l K hc3) ⟨Nat.le_of_ble_eq_true rfl, Nat.le_of_ble_eq_true rfl⟩ rfl hl.1 rfl (Nat.le_of_ble_eq_true rfl) dX12_fetched_6 ⟨Nat.le_of_ble_eq_true rfl, Nat.le_of_ble_eq_true rfl⟩ (fun _ H locs hW => ?_)
  refine lz_eq (tgt := 24) hx hb dX12_fetched_9 (by decide) (fun q4 => ?_) (fun q4 => ?_)
  · have h := ifn q4 h
    refine lv_iconst (v := (-1)) hx hb dX12_fetched_24 (by decide) ?_
    obtain ⟨rfl, rfl⟩ := Prod.mk.inj (Option.some.inj h)
    exact rt_i hF hr hk rfl (fun _ => 0) hW rfl dX12_fetched_25
  · have h := ifp q4 h
    refine lv_iload_n hx hb dX12_fetched_12 rfl (lv_at hl 2 rfl) ?_
    refine lv_i2l hx hb dX12_fetched_13 rfl ?_
    refine lv_lconst (v := 1) hx hb dX12_fetched_14 (by decide) ?_
    refine lv_ldc2 hx hb hF.2.2.2.1 (hF.2.2.1 _ kl_X12_330) dX12_fetched_15 ?_
    obtain ⟨r5, hc7, h⟩ := bq_some h
    refine cS_i (rest := []) hF hW mw_X12_154 (c_X12_in l K hc7) ⟨Nat.le_of_ble_eq_true rfl, Nat.le_of_ble_eq_true rfl⟩ rfl hl.1 rfl (Nat.le_of_ble_eq_true rfl) dX12_fetched_18 ⟨Nat.le_of_ble_eq_true rfl, Nat.le_of_ble_eq_true rfl⟩ (fun _ H locs hW => ?_)
    refine lz_ne (tgt := 26) hx hb dX12_fetched_21 (by decide) (fun q8 => ?_) (fun q8 => ?_)
    · have h := ifp q8 h
      refine lv_aload_n hx hb dX12_fetched_26 rfl (lv_at hl 0 rfl) ?_
      obtain ⟨r9, M10, hc11, h⟩ := bd_some h
      refine cV_i (ci := 12) (q0 := 0) (rest := []) hF hW mw_X12_273 (c_X12_walk l K a hc11) ⟨Nat.le_of_ble_eq_true rfl, Nat.le_of_ble_eq_true rfl⟩ rfl rfl (pM_0 K a _) rfl hl.1 rfl (Nat.le_of_ble_eq_true rfl) dX12_fetched_27 ⟨Nat.le_of_ble_eq_true rfl, Nat.le_of_ble_eq_true rfl⟩ (fun _ H locs hW => ?_)
      refine lz_eq (tgt := 36) hx hb dX12_fetched_30 (by decide) (fun q12 => ?_) (fun q12 => ?_)
      · have h := ifn q12 h
        refine lv_aload_n hx hb dX12_fetched_36 rfl (lv_at hl 0 rfl) ?_
        obtain ⟨M14, hc15, h⟩ := bm_some h
        refine cV_v (ci := 12) (q0 := 0) (rest := []) hF hW mw_X12_277 (c_X12_layOrder l K a hc15) ⟨Nat.le_of_ble_eq_true rfl, Nat.le_of_ble_eq_true rfl⟩ rfl rfl (pM_0 K a _) rfl hl.1 rfl (Nat.le_of_ble_eq_true rfl) dX12_fetched_37 ⟨Nat.le_of_ble_eq_true rfl, Nat.le_of_ble_eq_true rfl⟩ (fun _ H locs hW => ?_)
        refine lv_aload_n hx hb dX12_fetched_40 rfl (lv_at hl 0 rfl) ?_
        obtain ⟨M17, hc18, h⟩ := bm_some h
        refine cV_v (ci := 12) (q0 := 0) (rest := []) hF hW mw_X12_282 (c_X12_touchAll l K a hc18) ⟨Nat.le_of_ble_eq_true rfl, Nat.le_of_ble_eq_true rfl⟩ rfl rfl (pM_0 K a _) rfl hl.1 rfl (Nat.le_of_ble_eq_true rfl) dX12_fetched_41 ⟨Nat.le_of_ble_eq_true rfl, Nat.le_of_ble_eq_true rfl⟩ (fun _ H locs hW => ?_)
        refine lv_aload_n hx hb dX12_fetched_44 rfl (lv_at hl 0 rfl) ?_
        refine lv_iload_n hx hb dX12_fetched_45 rfl (lv_at hl 1 rfl) ?_
        refine lv_iload_n hx hb dX12_fetched_46 rfl (lv_at hl 2 rfl) ?_
        obtain ⟨r19, M20, hc21, h⟩ := bd_some h
        refine cV_i (ci := 12) (q0 := 0) (rest := []) hF hW mw_X12_402 (c_X12_fetchedMany l K a hc21) ⟨Nat.le_of_ble_eq_true rfl, Nat.le_of_ble_eq_true rfl⟩ rfl rfl (pM_0 K a _) rfl hl.1 rfl (Nat.le_of_ble_eq_true rfl) dX12_fetched_47 ⟨Nat.le_of_ble_eq_true rfl, Nat.le_of_ble_eq_true rfl⟩ (fun _ H locs hW => ?_)
        obtain ⟨rfl, rfl⟩ := Prod.mk.inj (Option.some.inj h)
        exact rt_i hF hr hk rfl (fun _ => 0) hW rfl dX12_fetched_50
      · have h := ifp q12 h
        refine lv_bipush (v := (-6)) hx hb dX12_fetched_33 (by decide) ?_
        obtain ⟨rfl, rfl⟩ := Prod.mk.inj (Option.some.inj h)
        exact rt_i hF hr hk rfl (fun _ => 0) hW rfl dX12_fetched_35
    · have h := ifn q8 h
      refine lv_iconst (v := (-1)) hx hb dX12_fetched_24 (by decide) ?_
      obtain ⟨rfl, rfl⟩ := Prod.mk.inj (Option.some.inj h)
      exact rt_i hF hr hk rfl (fun _ => 0) hW rfl dX12_fetched_25
set_option maxRecDepth 100000 in
set_option maxHeartbeats 1000000 in
theorem c_X12_best (l : Launch) (K : Kx) (a : Nat → Nat) {M M0 : Mem} {x1 : Int32} {x2 : Int32} {x3 : Int32} {r0 : Int32} (h : f_X12_best M x1 x2 x3 = some (r0, M0)) : CMi l yX12_best cX12_best 9 (some .int) ({ frames := 4, cells := 0, slots := 0, locals := 95 } : Room) K [.ref (a 0), .int x1, .int x2, .int x3] (wM K a M) (fun _ => wM K a M0) r0 := by
  refine cs_i (by decide +kernel) (Nat.le_of_ble_eq_true rfl) ?_
  intro p e s m args below meth c A ls hF hr hk hnm hW hl
  have hx := hF.1
  have hb := hF.2.1
  have hl : lv_has ls 9 [(0, .ref (a 0)), (1, .int x1), (2, .int x2), (3, .int x3)] := hl
  obtain ⟨H, hH⟩ : ∃ z, z = s.heap := ⟨_, rfl⟩
  rw [← hH] at hW ⊢
  have J80 : ∀ (n80 : Nat) (x1 : Int32) (x2 : Int32) (x3 : Int32) (x4 : Int32) (x5 : Int32) (x6 : Int32) (x7 : Int32) (M : Mem) (H : Heap) (locs : List Loc) (ls : Array Slot), f_X12_best_80 n80 x1 x2 x3 x4 x5 x6 x7 M = some (r0, M0) → Wd K A s (wM K a M) H locs → lv_has ls 9 [(0, .ref (a 0)), (1, .int x1), (2, .int x2), (3, .int x3), (4, .int x4), (5, .int x5), (6, .int x6), (7, .int x7)] → W p l e ({ frames := 4, cells := 0, slots := 0, locals := 95 } : Room) s m args below meth c H locs 0 0 (EndI K A (fun _ => wM K a M0) r0 below args s ({ frames := 4, cells := 0, slots := 0, locals := 95 } : Room)) (F0 m 80 ls []) := by
    intro n80
    induction n80 with
    | zero => intro x1 x2 x3 x4 x5 x6 x7 M H locs ls h; exact absurd h (by simp [f_X12_best_80])
    | succ n80 ih80 =>
      have J98 : ∀ (x1 : Int32) (x2 : Int32) (x3 : Int32) (x4 : Int32) (x5 : Int32) (x6 : Int32) (x7 : Int32) (M : Mem) (H : Heap) (locs : List Loc) (ls : Array Slot), f_X12_best_98 (f_X12_best_80 n80) x1 x2 x3 x4 x5 x6 x7 M = some (r0, M0) → Wd K A s (wM K a M) H locs → lv_has ls 9 [(0, .ref (a 0)), (1, .int x1), (2, .int x2), (3, .int x3), (4, .int x4), (5, .int x5), (6, .int x6), (7, .int x7)] → W p l e ({ frames := 4, cells := 0, slots := 0, locals := 95 } : Room) s m args below meth c H locs 0 0 (EndI K A (fun _ => wM K a M0) r0 below args s ({ frames := 4, cells := 0, slots := 0, locals := 95 } : Room)) (F0 m 98 ls []) := by
        have J142 : ∀ (x1 : Int32) (x2 : Int32) (x3 : Int32) (x4 : Int32) (x5 : Int32) (x6 : Int32) (x7 : Int32) (M : Mem) (H : Heap) (locs : List Loc) (ls : Array Slot), f_X12_best_142 (f_X12_best_80 n80) x1 x2 x3 x4 x5 x6 x7 M = some (r0, M0) → Wd K A s (wM K a M) H locs → lv_has ls 9 [(0, .ref (a 0)), (1, .int x1), (2, .int x2), (3, .int x3), (4, .int x4), (5, .int x5), (6, .int x6), (7, .int x7)] → W p l e ({ frames := 4, cells := 0, slots := 0, locals := 95 } : Room) s m args below meth c H locs 0 0 (EndI K A (fun _ => wM K a M0) r0 below args s ({ frames := 4, cells := 0, slots := 0, locals := 95 } : Room)) (F0 m 142 ls []) := by
          intro x1 x2 x3 x4 x5 x6 x7 M H locs ls h hW hl
          unfold f_X12_best_142 at h
          refine lv_aload_n hx hb dX12_best_142 rfl (lv_at hl 0 rfl) ?_
          obtain ⟨M52, hc53, h⟩ := bm_some h
          refine cV_v (ci := 12) (q0 := 0) (rest := []) hF hW mw_X12_336 (c_X12_giveTried l K a hc53) ⟨Nat.le_of_ble_eq_true rfl, Nat.le_of_ble_eq_true rfl⟩ rfl rfl (pM_0 K a _) rfl hl.1 rfl (Nat.le_of_ble_eq_true rfl) dX12_best_143 ⟨Nat.le_of_ble_eq_true rfl, Nat.le_of_ble_eq_true rfl⟩ (fun _ H locs hW => ?_)
          refine lv_iinc (v := (x7 + 1)) (lv' := [(7, .int (x7 + 1)), (0, .ref (a 0)), (1, .int x1), (2, .int x2), (3, .int x3), (4, .int x4), (5, .int x5), (6, .int x6)]) hx hb dX12_best_146 hl (k := 7) rfl rfl (by decide) rfl (fun ls hl => ?_)
          refine lv_goto (tgt := 80) hx hb dX12_best_149 (by decide) ?_
          exact ih80 x1 x2 x3 x4 x5 x6 (x7 + 1) _ _ _ _ h hW (lv_sub hl [1, 2, 3, 4, 5, 6, 7, 0] rfl)
        have J134 : ∀ (x1 : Int32) (x2 : Int32) (x3 : Int32) (x6 : Int32) (x7 : Int32) (x8 : Int32) (M : Mem) (H : Heap) (locs : List Loc) (ls : Array Slot), f_X12_best_134 (f_X12_best_142 (f_X12_best_80 n80)) x1 x2 x3 x6 x7 x8 M = some (r0, M0) → Wd K A s (wM K a M) H locs → lv_has ls 9 [(0, .ref (a 0)), (1, .int x1), (2, .int x2), (3, .int x3), (6, .int x6), (7, .int x7), (8, .int x8)] → W p l e ({ frames := 4, cells := 0, slots := 0, locals := 95 } : Room) s m args below meth c H locs 0 0 (EndI K A (fun _ => wM K a M0) r0 below args s ({ frames := 4, cells := 0, slots := 0, locals := 95 } : Room)) (F0 m 134 ls []) := by
          intro x1 x2 x3 x6 x7 x8 M H locs ls h hW hl
          unfold f_X12_best_134 at h
          refine lv_iload hx hb dX12_best_134 (lv_at hl 5 rfl) ?_
          refine lv_istore (lv' := [(4, .int x7), (0, .ref (a 0)), (1, .int x1), (2, .int x2), (3, .int x3), (6, .int x6), (7, .int x7), (8, .int x8)]) hx hb dX12_best_136 hl (by decide) rfl (fun ls hl => ?_)
          refine lv_iload hx hb dX12_best_138 (lv_at hl 7 rfl) ?_
          refine lv_istore (lv' := [(5, .int x8), (4, .int x7), (0, .ref (a 0)), (1, .int x1), (2, .int x2), (3, .int x3), (6, .int x6), (7, .int x7), (8, .int x8)]) hx hb dX12_best_140 hl (by decide) rfl (fun ls hl => ?_)
          exact J142 x1 x2 x3 x7 x8 x6 x7 _ _ _ _ h hW (lv_sub hl [2, 3, 4, 5, 1, 0, 6, 7] rfl)
        intro x1 x2 x3 x4 x5 x6 x7 M H locs ls h hW hl
        unfold f_X12_best_98 at h
        refine lv_aload_n hx hb dX12_best_98 rfl (lv_at hl 0 rfl) ?_
        refine lv_iload_n hx hb dX12_best_99 rfl (lv_at hl 1 rfl) ?_
        refine lv_iload hx hb dX12_best_100 (lv_at hl 7 rfl) ?_
        obtain ⟨M40, hc41, h⟩ := bm_some h
        refine cV_v (ci := 12) (q0 := 0) (rest := []) hF hW mw_X12_405 (c_X12_make l K a hc41) ⟨Nat.le_of_ble_eq_true rfl, Nat.le_of_ble_eq_true rfl⟩ rfl rfl (pM_0 K a _) rfl hl.1 rfl (Nat.le_of_ble_eq_true rfl) dX12_best_102 ⟨Nat.le_of_ble_eq_true rfl, Nat.le_of_ble_eq_true rfl⟩ (fun _ H locs hW => ?_)
        refine lv_aload_n hx hb dX12_best_105 rfl (lv_at hl 0 rfl) ?_
        obtain ⟨r42, M43, hc44, h⟩ := bd_some h
        refine cV_i (ci := 12) (q0 := 0) (rest := []) hF hW mw_X12_369 (c_X12_isAllowed l K a hc44) ⟨Nat.le_of_ble_eq_true rfl, Nat.le_of_ble_eq_true rfl⟩ rfl rfl (pM_0 K a _) rfl hl.1 rfl (Nat.le_of_ble_eq_true rfl) dX12_best_106 ⟨Nat.le_of_ble_eq_true rfl, Nat.le_of_ble_eq_true rfl⟩ (fun _ H locs hW => ?_)
        refine lz_eq (tgt := 142) hx hb dX12_best_109 (by decide) (fun q45 => ?_) (fun q45 => ?_)
        · have h := ifn q45 h
          exact J142 x1 x2 x3 x4 x5 x6 x7 _ _ _ _ h hW (lv_sub hl [0, 1, 2, 3, 4, 5, 6, 7] rfl)
        · have h := ifp q45 h
          refine lv_aload_n hx hb dX12_best_112 rfl (lv_at hl 0 rfl) ?_
          refine lv_iload_n hx hb dX12_best_113 rfl (lv_at hl 2 rfl) ?_
          refine lv_iload_n hx hb dX12_best_114 rfl (lv_at hl 3 rfl) ?_
          obtain ⟨r46, M47, hc48, h⟩ := bd_some h
          refine cV_i (ci := 12) (q0 := 0) (rest := []) hF hW mw_X12_402 (c_X12_fetchedMany l K a hc48) ⟨Nat.le_of_ble_eq_true rfl, Nat.le_of_ble_eq_true rfl⟩ rfl rfl (pM_0 K a _) rfl hl.1 rfl (Nat.le_of_ble_eq_true rfl) dX12_best_115 ⟨Nat.le_of_ble_eq_true rfl, Nat.le_of_ble_eq_true rfl⟩ (fun _ H locs hW => ?_)
          refine lv_istore (lv' := [(8, .int r46), (0, .ref (a 0)), (1, .int x1), (2, .int x2), (3, .int x3), (4, .int x4), (5, .int x5), (6, .int x6), (7, .int x7)]) hx hb dX12_best_118 hl (by decide) rfl (fun ls hl => ?_)
          refine lv_iload hx hb dX12_best_120 (lv_at hl 5 rfl) ?_
          refine lv_bipush (v := (-9)) hx hb dX12_best_122 (by decide) ?_
          refine lv_icmp_eq (tgt := 134) hx hb dX12_best_124 (by decide) (fun q49 => ?_) (fun q49 => ?_)
          · have h := ifp q49 h
            exact J134 x1 x2 x3 x6 x7 r46 _ _ _ _ h hW (lv_sub hl [1, 2, 3, 4, 7, 8, 0] rfl)
          · have h := ifn q49 h
            refine lv_iload hx hb dX12_best_127 (lv_at hl 0 rfl) ?_
            refine lv_iload hx hb dX12_best_129 (lv_at hl 6 rfl) ?_
            refine lv_icmp_ge (tgt := 142) hx hb dX12_best_131 (by decide) (fun q50 => ?_) (fun q50 => ?_)
            · have h := ifp q50 h
              exact J142 x1 x2 x3 x4 x5 x6 x7 _ _ _ _ h hW (lv_sub hl [1, 2, 3, 4, 5, 6, 7, 8] rfl)
            · have h := ifn q50 h
              exact J134 x1 x2 x3 x6 x7 r46 _ _ _ _ h hW (lv_sub hl [1, 2, 3, 4, 7, 8, 0] rfl)
      intro x1 x2 x3 x4 x5 x6 x7 M H locs ls h hW hl
      rw [f_X12_best_80] at h
      refine lv_iload hx hb dX12_best_80 (lv_at hl 7 rfl) ?_
      refine lv_iconst (v := 5) hx hb dX12_best_82 (by decide) ?_
      refine lv_icmp_ge (tgt := 152) hx hb dX12_best_83 (by decide) (fun q28 => ?_) (fun q28 => ?_)
      · have h := ifp q28 h
        refine lv_iload hx hb dX12_best_152 (lv_at hl 4 rfl) ?_
        refine lv_bipush (v := (-9)) hx hb dX12_best_154 (by decide) ?_
        refine lv_icmp_ne (tgt := 162) hx hb dX12_best_156 (by decide) (fun q29 => ?_) (fun q29 => ?_)
        · have h := ifn q29 h
          refine lv_iload hx hb dX12_best_162 (lv_at hl 4 rfl) ?_
          refine lv_if_le (tgt := 180) hx hb dX12_best_164 (by decide) (fun q30 => ?_) (fun q30 => ?_)
          · have h := ifp q30 h
            refine lv_iload hx hb dX12_best_180 (lv_at hl 5 rfl) ?_
            obtain ⟨rfl, rfl⟩ := Prod.mk.inj (Option.some.inj h)
            exact rt_i hF hr hk rfl (fun _ => 0) hW rfl dX12_best_182
          · have h := ifn q30 h
            refine lv_aload_n hx hb dX12_best_167 rfl (lv_at hl 0 rfl) ?_
            refine lv_iload_n hx hb dX12_best_168 rfl (lv_at hl 1 rfl) ?_
            refine lv_iload hx hb dX12_best_169 (lv_at hl 4 rfl) ?_
            obtain ⟨M32, hc33, h⟩ := bm_some h
            refine cV_v (ci := 12) (q0 := 0) (rest := []) hF hW mw_X12_405 (c_X12_make l K a hc33) ⟨Nat.le_of_ble_eq_true rfl, Nat.le_of_ble_eq_true rfl⟩ rfl rfl (pM_0 K a _) rfl hl.1 rfl (Nat.le_of_ble_eq_true rfl) dX12_best_171 ⟨Nat.le_of_ble_eq_true rfl, Nat.le_of_ble_eq_true rfl⟩ (fun _ H locs hW => ?_)
            refine lv_aload_n hx hb dX12_best_174 rfl (lv_at hl 0 rfl) ?_
            obtain ⟨r34, M35, hc36, h⟩ := bd_some h
            refine cV_i (ci := 12) (q0 := 0) (rest := []) hF hW mw_X12_324 (c_X12_turned l K a hc36) ⟨Nat.le_of_ble_eq_true rfl, Nat.le_of_ble_eq_true rfl⟩ rfl rfl (pM_0 K a _) rfl hl.1 rfl (Nat.le_of_ble_eq_true rfl) dX12_best_175 ⟨Nat.le_of_ble_eq_true rfl, Nat.le_of_ble_eq_true rfl⟩ (fun _ H locs hW => ?_)
            refine lv_istore (lv' := [(7, .int r34), (0, .ref (a 0)), (1, .int x1), (2, .int x2), (3, .int x3), (4, .int x4), (5, .int x5), (6, .int x6)]) hx hb dX12_best_178 hl (by decide) rfl (fun ls hl => ?_)
            refine lv_iload hx hb dX12_best_180 (lv_at hl 6 rfl) ?_
            obtain ⟨rfl, rfl⟩ := Prod.mk.inj (Option.some.inj h)
            exact rt_i hF hr hk rfl (fun _ => 0) hW rfl dX12_best_182
        · have h := ifp q29 h
          refine lv_bipush (v := (-9)) hx hb dX12_best_159 (by decide) ?_
          obtain ⟨rfl, rfl⟩ := Prod.mk.inj (Option.some.inj h)
          exact rt_i hF hr hk rfl (fun _ => 0) hW rfl dX12_best_161
      · have h := ifn q28 h
        refine lv_iload hx hb dX12_best_86 (lv_at hl 7 rfl) ?_
        refine lv_if_eq (tgt := 98) hx hb dX12_best_88 (by decide) (fun q37 => ?_) (fun q37 => ?_)
        · have h := ifp q37 h
          exact J98 x1 x2 x3 x4 x5 x6 x7 _ _ _ _ h hW (lv_sub hl [0, 1, 2, 3, 4, 5, 6, 7] rfl)
        · have h := ifn q37 h
          refine lv_iload hx hb dX12_best_91 (lv_at hl 7 rfl) ?_
          refine lv_iload hx hb dX12_best_93 (lv_at hl 6 rfl) ?_
          refine lv_icmp_le (tgt := 146) hx hb dX12_best_95 (by decide) (fun q38 => ?_) (fun q38 => ?_)
          · have h := ifp q38 h
            refine lv_iinc (v := (x7 + 1)) (lv' := [(7, .int (x7 + 1)), (0, .ref (a 0)), (1, .int x1), (2, .int x2), (3, .int x3), (4, .int x4), (5, .int x5), (6, .int x6)]) hx hb dX12_best_146 hl (k := 7) rfl rfl (by decide) rfl (fun ls hl => ?_)
            refine lv_goto (tgt := 80) hx hb dX12_best_149 (by decide) ?_
            exact ih80 x1 x2 x3 x4 x5 x6 (x7 + 1) _ _ _ _ h hW (lv_sub hl [1, 2, 3, 4, 5, 6, 7, 0] rfl)
          · have h := ifn q38 h
            exact J98 x1 x2 x3 x4 x5 x6 x7 _ _ _ _ h hW (lv_sub hl [0, 1, 2, 3, 4, 5, 6, 7] rfl)
  unfold f_X12_best at h
  refine lv_aload_n hx hb dX12_best_0 rfl (lv_at hl 0 rfl) ?_
  refine lv_iload_n hx hb dX12_best_1 rfl (lv_at hl 1 rfl) ?_
  obtain ⟨r1, hc3, h⟩ := bq_some h
  refine cV_i (ci := 12) (q0 := 0) (rest := []) hF hW mw_X12_177 (c_X12_isNode l K a hc3) ⟨Nat.le_of_ble_eq_true rfl, Nat.le_of_ble_eq_true rfl⟩ rfl rfl (pM_0 K a _) rfl hl.1 rfl (Nat.le_of_ble_eq_true rfl) dX12_best_2 ⟨Nat.le_of_ble_eq_true rfl, Nat.le_of_ble_eq_true rfl⟩ (fun _ H locs hW => ?_)
  refine lz_eq (tgt := 32) hx hb dX12_best_5 (by decide) (fun q4 => ?_) (fun q4 => ?_)
  · have h := ifn q4 h
    refine lv_iconst (v := (-1)) hx hb dX12_best_32 (by decide) ?_
    obtain ⟨rfl, rfl⟩ := Prod.mk.inj (Option.some.inj h)
    exact rt_i hF hr hk rfl (fun _ => 0) hW rfl dX12_best_33
  · have h := ifp q4 h
    refine lv_iload_n hx hb dX12_best_8 rfl (lv_at hl 2 rfl) ?_
    refine lv_i2l hx hb dX12_best_9 rfl ?_
    refine lv_lconst (v := 1) hx hb dX12_best_10 (by decide) ?_
    refine lv_ldc2 hx hb hF.2.2.2.1 (hF.2.2.1 _ kl_X12_400) dX12_best_11 ?_
    obtain ⟨r5, hc7, h⟩ := bq_some h
    refine cS_i (rest := []) hF hW mw_X12_154 (c_X12_in l K hc7) ⟨Nat.le_of_ble_eq_true rfl, Nat.le_of_ble_eq_true rfl⟩ rfl hl.1 rfl (Nat.le_of_ble_eq_true rfl) dX12_best_14 ⟨Nat.le_of_ble_eq_true rfl, Nat.le_of_ble_eq_true rfl⟩ (fun _ H locs hW => ?_)
    refine lz_eq (tgt := 32) hx hb dX12_best_17 (by decide) (fun q8 => ?_) (fun q8 => ?_)
    · have h := ifn q8 h
      refine lv_iconst (v := (-1)) hx hb dX12_best_32 (by decide) ?_
      obtain ⟨rfl, rfl⟩ := Prod.mk.inj (Option.some.inj h)
      exact rt_i hF hr hk rfl (fun _ => 0) hW rfl dX12_best_33
    · have h := ifp q8 h
      refine lv_iload_n hx hb dX12_best_20 rfl (lv_at hl 3 rfl) ?_
      refine lv_i2l hx hb dX12_best_21 rfl ?_
      refine lv_lconst (v := 1) hx hb dX12_best_22 (by decide) ?_
      refine lv_ldc2 hx hb hF.2.2.2.1 (hF.2.2.1 _ kl_X12_330) dX12_best_23 ?_
      obtain ⟨r9, hc11, h⟩ := bq_some h
      refine cS_i (rest := []) hF hW mw_X12_154 (c_X12_in l K hc11) ⟨Nat.le_of_ble_eq_true rfl, Nat.le_of_ble_eq_true rfl⟩ rfl hl.1 rfl (Nat.le_of_ble_eq_true rfl) dX12_best_26 ⟨Nat.le_of_ble_eq_true rfl, Nat.le_of_ble_eq_true rfl⟩ (fun _ H locs hW => ?_)
      refine lz_ne (tgt := 34) hx hb dX12_best_29 (by decide) (fun q12 => ?_) (fun q12 => ?_)
      · have h := ifp q12 h
        refine lv_aload_n hx hb dX12_best_34 rfl (lv_at hl 0 rfl) ?_
        obtain ⟨r13, M14, hc15, h⟩ := bd_some h
        refine cV_i (ci := 12) (q0 := 0) (rest := []) hF hW mw_X12_273 (c_X12_walk l K a hc15) ⟨Nat.le_of_ble_eq_true rfl, Nat.le_of_ble_eq_true rfl⟩ rfl rfl (pM_0 K a _) rfl hl.1 rfl (Nat.le_of_ble_eq_true rfl) dX12_best_35 ⟨Nat.le_of_ble_eq_true rfl, Nat.le_of_ble_eq_true rfl⟩ (fun _ H locs hW => ?_)
        refine lz_eq (tgt := 44) hx hb dX12_best_38 (by decide) (fun q16 => ?_) (fun q16 => ?_)
        · have h := ifn q16 h
          refine lv_aload_n hx hb dX12_best_44 rfl (lv_at hl 0 rfl) ?_
          refine lv_iload_n hx hb dX12_best_45 rfl (lv_at hl 1 rfl) ?_
          obtain ⟨r17, hc19, h⟩ := bq_some h
          refine cV_i (ci := 12) (q0 := 0) (rest := []) hF hW mw_X12_173 (c_X12_isLoop l K a hc19) ⟨Nat.le_of_ble_eq_true rfl, Nat.le_of_ble_eq_true rfl⟩ rfl rfl (pM_0 K a _) rfl hl.1 rfl (Nat.le_of_ble_eq_true rfl) dX12_best_46 ⟨Nat.le_of_ble_eq_true rfl, Nat.le_of_ble_eq_true rfl⟩ (fun _ H locs hW => ?_)
          refine lz_ne (tgt := 58) hx hb dX12_best_49 (by decide) (fun q20 => ?_) (fun q20 => ?_)
          · have h := ifp q20 h
            refine lv_aload_n hx hb dX12_best_58 rfl (lv_at hl 0 rfl) ?_
            obtain ⟨M22, hc23, h⟩ := bm_some h
            refine cV_v (ci := 12) (q0 := 0) (rest := []) hF hW mw_X12_317 (c_X12_keepTried l K a hc23) ⟨Nat.le_of_ble_eq_true rfl, Nat.le_of_ble_eq_true rfl⟩ rfl rfl (pM_0 K a _) rfl hl.1 rfl (Nat.le_of_ble_eq_true rfl) dX12_best_59 ⟨Nat.le_of_ble_eq_true rfl, Nat.le_of_ble_eq_true rfl⟩ (fun _ H locs hW => ?_)
            refine lv_bipush (v := (-9)) hx hb dX12_best_62 (by decide) ?_
            refine lv_istore (lv' := [(4, .int (-9)), (0, .ref (a 0)), (1, .int x1), (2, .int x2), (3, .int x3)]) hx hb dX12_best_64 hl (by decide) rfl (fun ls hl => ?_)
            refine lv_iconst (v := 0) hx hb dX12_best_66 (by decide) ?_
            refine lv_istore (lv' := [(5, .int 0), (4, .int (-9)), (0, .ref (a 0)), (1, .int x1), (2, .int x2), (3, .int x3)]) hx hb dX12_best_67 hl (by decide) rfl (fun ls hl => ?_)
            refine lv_aload_n hx hb dX12_best_69 rfl (lv_at hl 2 rfl) ?_
            refine g_X12_32 hF hW dX12_best_70 ?_
            refine lv_iload_n hx hb dX12_best_73 rfl (lv_at hl 3 rfl) ?_
            obtain ⟨q24, h⟩ := ck_some h
            refine w_ild hF hW (pM_8 K a _) q24 dX12_best_74 ?_
            refine lv_istore (lv' := [(6, .int (M22.1 8 x1.toNatClampNeg)), (5, .int 0), (4, .int (-9)), (0, .ref (a 0)), (1, .int x1), (2, .int x2), (3, .int x3)]) hx hb dX12_best_75 hl (by decide) rfl (fun ls hl => ?_)
            refine lv_iconst (v := 0) hx hb dX12_best_77 (by decide) ?_
            refine lv_istore (lv' := [(7, .int 0), (6, .int (M22.1 8 x1.toNatClampNeg)), (5, .int 0), (4, .int (-9)), (0, .ref (a 0)), (1, .int x1), (2, .int x2), (3, .int x3)]) hx hb dX12_best_78 hl (by decide) rfl (fun ls hl => ?_)
            exact J80 100000 x1 x2 x3 (-9) 0 (M22.1 8 x1.toNatClampNeg) 0 _ _ _ _ h hW (lv_sub hl [4, 5, 6, 7, 3, 2, 1, 0] rfl)
          · have h := ifn q20 h
            refine lv_aload_n hx hb dX12_best_52 rfl (lv_at hl 0 rfl) ?_
            refine lv_iconst (v := 3) hx hb dX12_best_53 (by decide) ?_
            obtain ⟨r25, M26, hc27, h⟩ := bd_some h
            refine cV_i (ci := 12) (q0 := 0) (rest := []) hF hW mw_X12_207 (c_X12_meets l K a hc27) ⟨Nat.le_of_ble_eq_true rfl, Nat.le_of_ble_eq_true rfl⟩ rfl rfl (pM_0 K a _) rfl hl.1 rfl (Nat.le_of_ble_eq_true rfl) dX12_best_54 ⟨Nat.le_of_ble_eq_true rfl, Nat.le_of_ble_eq_true rfl⟩ (fun _ H locs hW => ?_)
            obtain ⟨rfl, rfl⟩ := Prod.mk.inj (Option.some.inj h)
            exact rt_i hF hr hk rfl (fun _ => 0) hW rfl dX12_best_57
        · have h := ifp q16 h
          refine lv_bipush (v := (-6)) hx hb dX12_best_41 (by decide) ?_
          obtain ⟨rfl, rfl⟩ := Prod.mk.inj (Option.some.inj h)
          exact rt_i hF hr hk rfl (fun _ => 0) hW rfl dX12_best_43
      · have h := ifn q12 h
        refine lv_iconst (v := (-1)) hx hb dX12_best_32 (by decide) ?_
        obtain ⟨rfl, rfl⟩ := Prod.mk.inj (Option.some.inj h)
        exact rt_i hF hr hk rfl (fun _ => 0) hW rfl dX12_best_33
