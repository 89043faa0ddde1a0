set_option maxRecDepth 100000 in
set_option maxHeartbeats 1000000 in
theorem c_X12_lines (l : Launch) (K : Kx) (a : Nat → Nat) {M M0 : Mem}  {r0 : Int32} (h : f_X12_lines M = some (r0, M0)) : CMi l yX12_lines cX12_lines 1 (some .int) ({ frames := 3, cells := 0, slots := 0, locals := 74 } : Room) K [.ref (a 0)] (wM K a M) (fun _ => wM K a M0) r0 := by
  refine cs_i (by decide +kernel) (Nat.le_of_ble_eq_true rfl) ?_
  intro p e s m args below meth c A ls hF hr hk hnm hW hl
  have hx := hF.1
  have hb := hF.2.1
  have hl : lv_has ls 1 [(0, .ref (a 0))] := hl
  obtain ⟨H, hH⟩ : ∃ z, z = s.heap := ⟨_, rfl⟩
  rw [← hH] at hW ⊢
  unfold f_X12_lines at h
  refine lv_aload_n hx hb dX12_lines_0 rfl (lv_at hl 0 rfl) ?_
  obtain ⟨r1, M2, hc3, h⟩ := bd_some h
  refine cV_i (ci := 12) (q0 := 0) (rest := []) hF hW mw_X12_273 (c_X12_walk l K a hc3) ⟨Nat.le_of_ble_eq_true rfl, Nat.le_of_ble_eq_true rfl⟩ rfl rfl (pM_0 K a _) rfl hl.1 rfl (Nat.le_of_ble_eq_true rfl) dX12_lines_1 ⟨Nat.le_of_ble_eq_true rfl, Nat.le_of_ble_eq_true rfl⟩ (fun _ H locs hW => ?_)
  refine lz_eq (tgt := 10) hx hb dX12_lines_4 (by decide) (fun q4 => ?_) (fun q4 => ?_)
  · have h := ifn q4 h
    refine lv_aload_n hx hb dX12_lines_10 rfl (lv_at hl 0 rfl) ?_
    obtain ⟨M6, hc7, h⟩ := bm_some h
    refine cV_v (ci := 12) (q0 := 0) (rest := []) hF hW mw_X12_414 (c_X12_layLines l K a hc7) ⟨Nat.le_of_ble_eq_true rfl, Nat.le_of_ble_eq_true rfl⟩ rfl rfl (pM_0 K a _) rfl hl.1 rfl (Nat.le_of_ble_eq_true rfl) dX12_lines_11 ⟨Nat.le_of_ble_eq_true rfl, Nat.le_of_ble_eq_true rfl⟩ (fun _ H locs hW => ?_)
    refine lv_aload_n hx hb dX12_lines_14 rfl (lv_at hl 0 rfl) ?_
    refine g_X12_408 hF hW dX12_lines_15 ?_
    obtain ⟨rfl, rfl⟩ := Prod.mk.inj (Option.some.inj h)
    exact rt_i hF hr hk rfl (fun _ => 0) hW rfl dX12_lines_18
  · have h := ifp q4 h
    refine lv_bipush (v := (-6)) hx hb dX12_lines_7 (by decide) ?_
    obtain ⟨rfl, rfl⟩ := Prod.mk.inj (Option.some.inj h)
    exact rt_i hF hr hk rfl (fun _ => 0) hW rfl dX12_lines_9
set_option maxRecDepth 100000 in
set_option maxHeartbeats 1000000 in
theorem c_X12_written (l : Launch) (K : Kx) (a : Nat → Nat) {M M0 : Mem} {x1 : Int32} {x2 : Int32} {r0 : Int32} (h : f_X12_written M x1 x2 = some (r0, M0)) : CMi l yX12_written cX12_written 6 (some .int) ({ frames := 3, cells := 0, slots := 0, locals := 74 } : Room) K [.ref (a 0), .int x1, .int x2] (wM K a M) (fun _ => wM K a M0) r0 := by
  refine cs_i (by decide +kernel) (Nat.le_of_ble_eq_true rfl) ?_
  intro p e s m args below meth c A ls hF hr hk hnm hW hl
  have hx := hF.1
  have hb := hF.2.1
  have hl : lv_has ls 6 [(0, .ref (a 0)), (1, .int x1), (2, .int x2)] := hl
  obtain ⟨H, hH⟩ : ∃ z, z = s.heap := ⟨_, rfl⟩
  rw [← hH] at hW ⊢
  have J84 : ∀ (x2 : Int32) (x4 : Int32) (x5 : Int32) (M : Mem) (H : Heap) (locs : List Loc) (ls : Array Slot), f_X12_written_84 x2 x4 x5 M = some (r0, M0) → Wd K A s (wM K a M) H locs → lv_has ls 6 [(0, .ref (a 0)), (2, .int x2), (4, .int x4), (5, .int x5)] → W p l e ({ frames := 3, cells := 0, slots := 0, locals := 74 } : Room) s m args below meth c H locs 0 0 (EndI K A (fun _ => wM K a M0) r0 below args s ({ frames := 3, cells := 0, slots := 0, locals := 74 } : Room)) (F0 m 84 ls []) := by
    intro x2 x4 x5 M H locs ls h hW hl
    unfold f_X12_written_84 at h
    refine lv_aload_n hx hb dX12_written_84 rfl (lv_at hl 0 rfl) ?_
    refine lv_iload_n hx hb dX12_written_85 rfl (lv_at hl 1 rfl) ?_
    refine lv_if_ne (tgt := 100) hx hb dX12_written_86 (by decide) (fun q27 => ?_) (fun q27 => ?_)
    · have h := ifn q27 h
      refine lv_iload hx hb dX12_written_100 (lv_at hl 2 rfl) ?_
      refine lv_i2l hx hb dX12_written_102 rfl ?_
      refine s_X12_228 (x := x4.toInt64) hF hW dX12_written_103 (fun H locs hW => ?_)
      refine lv_goto (tgt := 181) hx hb dX12_written_106 (by decide) ?_
      refine lv_iconst (v := 1) hx hb dX12_written_181 (by decide) ?_
      obtain ⟨rfl, rfl⟩ := Prod.mk.inj (Option.some.inj h)
      exact rt_i hF hr hk rfl (fun _ => 0) hW rfl dX12_written_182
    · have h := ifp q27 h
      refine lv_aload_n hx hb dX12_written_89 rfl (lv_at hl 0 rfl) ?_
      refine g_X12_78 hF hW dX12_written_90 ?_
      refine lv_iload hx hb dX12_written_93 (lv_at hl 3 rfl) ?_
      obtain ⟨q28, h⟩ := ck_some h
      refine w_ild hF hW (pM_23 K a _) q28 dX12_written_95 ?_
      refine lv_i2l hx hb dX12_written_96 rfl ?_
      refine lv_goto (tgt := 103) hx hb dX12_written_97 (by decide) ?_
      refine s_X12_228 (x := (M.1 23 x5.toNatClampNeg).toInt64) hF hW dX12_written_103 (fun H locs hW => ?_)
      refine lv_goto (tgt := 181) hx hb dX12_written_106 (by decide) ?_
      refine lv_iconst (v := 1) hx hb dX12_written_181 (by decide) ?_
      obtain ⟨rfl, rfl⟩ := Prod.mk.inj (Option.some.inj h)
      exact rt_i hF hr hk rfl (fun _ => 0) hW rfl dX12_written_182
  unfold f_X12_written at h
  refine lv_iload_n hx hb dX12_written_0 rfl (lv_at hl 2 rfl) ?_
  refine lv_i2l hx hb dX12_written_1 rfl ?_
  refine lv_lconst (v := 0) hx hb dX12_written_2 (by decide) ?_
  refine lv_ldc2 hx hb hF.2.2.2.1 (hF.2.2.1 _ kl_X12_417) dX12_written_3 ?_
  obtain ⟨r1, hc3, h⟩ := bq_some h
  refine cS_i (rest := []) hF hW mw_X12_154 (c_X12_in l K hc3) ⟨Nat.le_of_ble_eq_true rfl, Nat.le_of_ble_eq_true rfl⟩ rfl hl.1 rfl (Nat.le_of_ble_eq_true rfl) dX12_written_6 ⟨Nat.le_of_ble_eq_true rfl, Nat.le_of_ble_eq_true rfl⟩ (fun _ H locs hW => ?_)
  refine lz_ne (tgt := 14) hx hb dX12_written_9 (by decide) (fun q4 => ?_) (fun q4 => ?_)
  · have h := ifp q4 h
    refine lv_aload_n hx hb dX12_written_14 rfl (lv_at hl 0 rfl) ?_
    obtain ⟨r5, M6, hc7, h⟩ := bd_some h
    refine cV_i (ci := 12) (q0 := 0) (rest := []) hF hW mw_X12_273 (c_X12_walk l K a hc7) ⟨Nat.le_of_ble_eq_true rfl, Nat.le_of_ble_eq_true rfl⟩ rfl rfl (pM_0 K a _) rfl hl.1 rfl (Nat.le_of_ble_eq_true rfl) dX12_written_15 ⟨Nat.le_of_ble_eq_true rfl, Nat.le_of_ble_eq_true rfl⟩ (fun _ H locs hW => ?_)
    refine lz_eq (tgt := 24) hx hb dX12_written_18 (by decide) (fun q8 => ?_) (fun q8 => ?_)
    · have h := ifn q8 h
      refine lv_aload_n hx hb dX12_written_24 rfl (lv_at hl 0 rfl) ?_
      obtain ⟨M10, hc11, h⟩ := bm_some h
      refine cV_v (ci := 12) (q0 := 0) (rest := []) hF hW mw_X12_414 (c_X12_layLines l K a hc11) ⟨Nat.le_of_ble_eq_true rfl, Nat.le_of_ble_eq_true rfl⟩ rfl rfl (pM_0 K a _) rfl hl.1 rfl (Nat.le_of_ble_eq_true rfl) dX12_written_25 ⟨Nat.le_of_ble_eq_true rfl, Nat.le_of_ble_eq_true rfl⟩ (fun _ H locs hW => ?_)
      refine lv_iload_n hx hb dX12_written_28 rfl (lv_at hl 1 rfl) ?_
      refine lv_i2l hx hb dX12_written_29 rfl ?_
      refine lv_lconst (v := 0) hx hb dX12_written_30 (by decide) ?_
      refine lv_aload_n hx hb dX12_written_31 rfl (lv_at hl 0 rfl) ?_
      refine g_X12_408 hF hW dX12_written_32 ?_
      refine lv_iconst (v := 1) hx hb dX12_written_35 (by decide) ?_
      refine lv_isub hx hb dX12_written_36 ?_
      refine lv_i2l hx hb dX12_written_37 rfl ?_
      obtain ⟨r12, hc14, h⟩ := bq_some h
      refine cS_i (rest := []) hF hW mw_X12_154 (c_X12_in l K hc14) ⟨Nat.le_of_ble_eq_true rfl, Nat.le_of_ble_eq_true rfl⟩ rfl hl.1 rfl (Nat.le_of_ble_eq_true rfl) dX12_written_38 ⟨Nat.le_of_ble_eq_true rfl, Nat.le_of_ble_eq_true rfl⟩ (fun _ H locs hW => ?_)
      refine lz_ne (tgt := 47) hx hb dX12_written_41 (by decide) (fun q15 => ?_) (fun q15 => ?_)
      · have h := ifp q15 h
        refine lv_aload_n hx hb dX12_written_47 rfl (lv_at hl 0 rfl) ?_
        refine g_X12_142 hF hW dX12_written_48 ?_
        refine lv_iload_n hx hb dX12_written_51 rfl (lv_at hl 1 rfl) ?_
        obtain ⟨q16, h⟩ := ck_some h
        refine w_ild hF hW (pM_44 K a _) q16 dX12_written_52 ?_
        refine lv_istore_n (lv' := [(3, .int (M10.1 44 x1.toNatClampNeg)), (0, .ref (a 0)), (1, .int x1), (2, .int x2)]) hx hb dX12_written_53 rfl hl (by decide) rfl (fun ls hl => ?_)
        refine lv_aload_n hx hb dX12_written_54 rfl (lv_at hl 1 rfl) ?_
        refine g_X12_142 hF hW dX12_written_55 ?_
        refine lv_iload_n hx hb dX12_written_58 rfl (lv_at hl 2 rfl) ?_
        refine lv_iconst (v := 1) hx hb dX12_written_59 (by decide) ?_
        refine lv_iadd hx hb dX12_written_60 ?_
        obtain ⟨q17, h⟩ := ck_some h
        refine w_ild hF hW (pM_44 K a _) q17 dX12_written_61 ?_
        refine lv_iload_n hx hb dX12_written_62 rfl (lv_at hl 0 rfl) ?_
        refine lv_isub hx hb dX12_written_63 ?_
        refine lv_istore (lv' := [(4, .int ((M10.1 44 (x1 + 1).toNatClampNeg) - (M10.1 44 x1.toNatClampNeg))), (3, .int (M10.1 44 x1.toNatClampNeg)), (0, .ref (a 0)), (1, .int x1), (2, .int x2)]) hx hb dX12_written_64 hl (by decide) rfl (fun ls hl => ?_)
        refine lv_aload_n hx hb dX12_written_66 rfl (lv_at hl 2 rfl) ?_
        refine g_X12_124 hF hW dX12_written_67 ?_
        refine lv_iload_n hx hb dX12_written_70 rfl (lv_at hl 1 rfl) ?_
        obtain ⟨q18, h⟩ := ck_some h
        refine w_ild hF hW (pM_38 K a _) q18 dX12_written_71 ?_
        refine lv_istore (lv' := [(5, .int (M10.1 38 (M10.1 44 x1.toNatClampNeg).toNatClampNeg)), (4, .int ((M10.1 44 (x1 + 1).toNatClampNeg) - (M10.1 44 x1.toNatClampNeg))), (3, .int (M10.1 44 x1.toNatClampNeg)), (0, .ref (a 0)), (1, .int x1), (2, .int x2)]) hx hb dX12_written_72 hl (by decide) rfl (fun ls hl => ?_)
        refine lv_iload_n hx hb dX12_written_74 rfl (lv_at hl 5 rfl) ?_
        refine lv_if_eq (tgt := 84) hx hb dX12_written_75 (by decide) (fun q19 => ?_) (fun q19 => ?_)
        · have h := ifp q19 h
          exact J84 x2 ((M10.1 44 (x1 + 1).toNatClampNeg) - (M10.1 44 x1.toNatClampNeg)) (M10.1 38 (M10.1 44 x1.toNatClampNeg).toNatClampNeg) _ _ _ _ h hW (lv_sub hl [3, 5, 1, 0] rfl)
        · have h := ifn q19 h
          refine lv_iload_n hx hb dX12_written_78 rfl (lv_at hl 5 rfl) ?_
          refine lv_bipush (v := 9) hx hb dX12_written_79 (by decide) ?_
          refine lv_icmp_ne (tgt := 109) hx hb dX12_written_81 (by decide) (fun q20 => ?_) (fun q20 => ?_)
          · have h := ifn q20 h
            refine lv_iload_n hx hb dX12_written_109 rfl (lv_at hl 5 rfl) ?_
            refine lv_iconst (v := 5) hx hb dX12_written_110 (by decide) ?_
            refine lv_icmp_ge (tgt := 134) hx hb dX12_written_111 (by decide) (fun q21 => ?_) (fun q21 => ?_)
            · have h := ifp q21 h
              refine lv_aload_n hx hb dX12_written_134 rfl (lv_at hl 3 rfl) ?_
              refine lv_iload hx hb dX12_written_135 (lv_at hl 1 rfl) ?_
              refine lv_iconst (v := 1) hx hb dX12_written_137 (by decide) ?_
              refine lv_icmp_ne (tgt := 145) hx hb dX12_written_138 (by decide) (fun q22 => ?_) (fun q22 => ?_)
              · have h := ifn q22 h
                refine lv_aload_n hx hb dX12_written_145 rfl (lv_at hl 3 rfl) ?_
                refine g_X12_81 hF hW dX12_written_146 ?_
                refine lv_iconst (v := 4) hx hb dX12_written_149 (by decide) ?_
                refine lv_aload_n hx hb dX12_written_150 rfl (lv_at hl 3 rfl) ?_
                refine g_X12_124 hF hW dX12_written_151 ?_
                refine lv_iload_n hx hb dX12_written_154 rfl (lv_at hl 2 rfl) ?_
                refine lv_iconst (v := 1) hx hb dX12_written_155 (by decide) ?_
                refine lv_iadd hx hb dX12_written_156 ?_
                obtain ⟨q23, h⟩ := ck_some h
                refine w_ild hF hW (pM_38 K a _) q23 dX12_written_157 ?_
                refine lv_imul hx hb dX12_written_158 ?_
                refine lv_iload_n hx hb dX12_written_159 rfl (lv_at hl 5 rfl) ?_
                refine lv_iadd hx hb dX12_written_160 ?_
                refine lv_iconst (v := 5) hx hb dX12_written_161 (by decide) ?_
                refine lv_isub hx hb dX12_written_162 ?_
                obtain ⟨q24, h⟩ := ck_some h
                refine w_lld hF hW (pM_24 K a _) q24 dX12_written_163 ?_
                refine lv_aload_n hx hb dX12_written_164 rfl (lv_at hl 3 rfl) ?_
                refine g_X12_81 hF hW dX12_written_165 ?_
                refine lv_iconst (v := 4) hx hb dX12_written_168 (by decide) ?_
                refine lv_iload hx hb dX12_written_169 (lv_at hl 0 rfl) ?_
                refine lv_imul hx hb dX12_written_171 ?_
                refine lv_iload_n hx hb dX12_written_172 rfl (lv_at hl 5 rfl) ?_
                refine lv_iadd hx hb dX12_written_173 ?_
                refine lv_iconst (v := 5) hx hb dX12_written_174 (by decide) ?_
                refine lv_isub hx hb dX12_written_175 ?_
                obtain ⟨q25, h⟩ := ck_some h
                refine w_lld hF hW (pM_24 K a _) q25 dX12_written_176 ?_
                refine lv_lsub hx hb dX12_written_177 ?_
                refine s_X12_228 (x := ((M10.2.1 24 (((4 * (M10.1 38 ((M10.1 44 x1.toNatClampNeg) + 1).toNatClampNeg)) + x2) - 5).toNatClampNeg) - (M10.2.1 24 (((4 * (M10.1 38 (M10.1 44 x1.toNatClampNeg).toNatClampNeg)) + x2) - 5).toNatClampNeg))) hF hW dX12_written_178 (fun H locs hW => ?_)
                refine lv_iconst (v := 1) hx hb dX12_written_181 (by decide) ?_
                obtain ⟨rfl, rfl⟩ := Prod.mk.inj (Option.some.inj h)
                exact rt_i hF hr hk rfl (fun _ => 0) hW rfl dX12_written_182
              · have h := ifp q22 h
                refine lv_lconst (v := 0) hx hb dX12_written_141 (by decide) ?_
                refine lv_goto (tgt := 178) hx hb dX12_written_142 (by decide) ?_
                refine s_X12_228 (x := 0) hF hW dX12_written_178 (fun H locs hW => ?_)
                refine lv_iconst (v := 1) hx hb dX12_written_181 (by decide) ?_
                obtain ⟨rfl, rfl⟩ := Prod.mk.inj (Option.some.inj h)
                exact rt_i hF hr hk rfl (fun _ => 0) hW rfl dX12_written_182
            · have h := ifn q21 h
              refine lv_aload_n hx hb dX12_written_114 rfl (lv_at hl 3 rfl) ?_
              refine lv_aload_n hx hb dX12_written_115 rfl (lv_at hl 3 rfl) ?_
              refine g_X12_81 hF hW dX12_written_116 ?_
              refine lv_iconst (v := 4) hx hb dX12_written_119 (by decide) ?_
              refine lv_iload hx hb dX12_written_120 (lv_at hl 0 rfl) ?_
              refine lv_imul hx hb dX12_written_122 ?_
              refine lv_iload_n hx hb dX12_written_123 rfl (lv_at hl 5 rfl) ?_
              refine lv_iadd hx hb dX12_written_124 ?_
              refine lv_iconst (v := 1) hx hb dX12_written_125 (by decide) ?_
              refine lv_isub hx hb dX12_written_126 ?_
              obtain ⟨q26, h⟩ := ck_some h
              refine w_lld hF hW (pM_24 K a _) q26 dX12_written_127 ?_
              refine s_X12_228 (x := (M10.2.1 24 (((4 * (M10.1 38 (M10.1 44 x1.toNatClampNeg).toNatClampNeg)) + x2) - 1).toNatClampNeg)) hF hW dX12_written_128 (fun H locs hW => ?_)
              refine lv_goto (tgt := 181) hx hb dX12_written_131 (by decide) ?_
              refine lv_iconst (v := 1) hx hb dX12_written_181 (by decide) ?_
              obtain ⟨rfl, rfl⟩ := Prod.mk.inj (Option.some.inj h)
              exact rt_i hF hr hk rfl (fun _ => 0) hW rfl dX12_written_182
          · have h := ifp q20 h
            exact J84 x2 ((M10.1 44 (x1 + 1).toNatClampNeg) - (M10.1 44 x1.toNatClampNeg)) (M10.1 38 (M10.1 44 x1.toNatClampNeg).toNatClampNeg) _ _ _ _ h hW (lv_sub hl [3, 5, 1, 0] rfl)
      · have h := ifn q15 h
        refine lv_bipush (v := (-9)) hx hb dX12_written_44 (by decide) ?_
        obtain ⟨rfl, rfl⟩ := Prod.mk.inj (Option.some.inj h)
        exact rt_i hF hr hk rfl (fun _ => 0) hW rfl dX12_written_46
    · have h := ifp q8 h
      refine lv_bipush (v := (-6)) hx hb dX12_written_21 (by decide) ?_
      obtain ⟨rfl, rfl⟩ := Prod.mk.inj (Option.some.inj h)
      exact rt_i hF hr hk rfl (fun _ => 0) hW rfl dX12_written_23
  · have h := ifn q4 h
    refine lv_iconst (v := (-1)) hx hb dX12_written_12 (by decide) ?_
    obtain ⟨rfl, rfl⟩ := Prod.mk.inj (Option.some.inj h)
    exact rt_i hF hr hk rfl (fun _ => 0) hW rfl dX12_written_13
