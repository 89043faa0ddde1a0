set_option maxRecDepth 100000 in
set_option maxHeartbeats 1000000 in
theorem c_X12_swap (l : Launch) (K : Kx) (a : Nat → Nat) {M M0 : Mem} {x1 : Int32} {x2 : Int32} {r0 : Int32} (h : f_X12_swap M x1 x2 = some (r0, M0)) : CMi l yX12_swap cX12_swap 3 (some .int) ({ frames := 3, cells := 0, slots := 0, locals := 73 } : Room) K [.ref (a 0), .int x1, .int x2] (wM K a M) (fun _ => wM K a M0) r0 := by
  refine cs_i (by decide +kernel) (Nat.le_of_ble_eq_true rfl) ?_
  intro p e s m args below meth c A ls hF hr hk hnm hW hl
  have hx := hF.1
  have hb := hF.2.1
  have hl : lv_has ls 3 [(0, .ref (a 0)), (1, .int x1), (2, .int x2)] := hl
  obtain ⟨H, hH⟩ : ∃ z, z = s.heap := ⟨_, rfl⟩
  rw [← hH] at hW ⊢
  unfold f_X12_swap at h
  refine lv_aload_n hx hb dX12_swap_0 rfl (lv_at hl 0 rfl) ?_
  refine lv_iload_n hx hb dX12_swap_1 rfl (lv_at hl 1 rfl) ?_
  obtain ⟨r1, hc3, h⟩ := bq_some h
  refine cV_i (ci := 12) (q0 := 0) (rest := []) hF hW mw_X12_177 (c_X12_isNode l K a hc3) ⟨Nat.le_of_ble_eq_true rfl, Nat.le_of_ble_eq_true rfl⟩ rfl rfl (pM_0 K a _) rfl hl.1 rfl (Nat.le_of_ble_eq_true rfl) dX12_swap_2 ⟨Nat.le_of_ble_eq_true rfl, Nat.le_of_ble_eq_true rfl⟩ (fun _ H locs hW => ?_)
  refine lz_ne (tgt := 10) hx hb dX12_swap_5 (by decide) (fun q4 => ?_) (fun q4 => ?_)
  · have h := ifp q4 h
    refine lv_aload_n hx hb dX12_swap_10 rfl (lv_at hl 0 rfl) ?_
    refine lv_iload_n hx hb dX12_swap_11 rfl (lv_at hl 1 rfl) ?_
    obtain ⟨r5, hc7, h⟩ := bq_some h
    refine cV_i (ci := 12) (q0 := 0) (rest := []) hF hW mw_X12_173 (c_X12_isLoop l K a hc7) ⟨Nat.le_of_ble_eq_true rfl, Nat.le_of_ble_eq_true rfl⟩ rfl rfl (pM_0 K a _) rfl hl.1 rfl (Nat.le_of_ble_eq_true rfl) dX12_swap_12 ⟨Nat.le_of_ble_eq_true rfl, Nat.le_of_ble_eq_true rfl⟩ (fun _ H locs hW => ?_)
    refine lz_ne (tgt := 24) hx hb dX12_swap_15 (by decide) (fun q8 => ?_) (fun q8 => ?_)
    · have h := ifp q8 h
      refine lv_iload_n hx hb dX12_swap_24 rfl (lv_at hl 2 rfl) ?_
      refine lv_i2l hx hb dX12_swap_25 rfl ?_
      refine lv_aload_n hx hb dX12_swap_26 rfl (lv_at hl 0 rfl) ?_
      refine g_X12_32 hF hW dX12_swap_27 ?_
      refine lv_iload_n hx hb dX12_swap_30 rfl (lv_at hl 1 rfl) ?_
      obtain ⟨q9, h⟩ := ck_some h
      refine w_ild hF hW (pM_8 K a _) q9 dX12_swap_31 ?_
      refine lv_iconst (v := 1) hx hb dX12_swap_32 (by decide) ?_
      refine lv_iadd hx hb dX12_swap_33 ?_
      refine lv_i2l hx hb dX12_swap_34 rfl ?_
      refine lv_ldc2 hx hb hF.2.2.2.1 (hF.2.2.1 _ kl_X12_212) dX12_swap_35 ?_
      obtain ⟨r10, hc12, h⟩ := bq_some h
      refine cS_i (rest := []) hF hW mw_X12_154 (c_X12_in l K hc12) ⟨Nat.le_of_ble_eq_true rfl, Nat.le_of_ble_eq_true rfl⟩ rfl hl.1 rfl (Nat.le_of_ble_eq_true rfl) dX12_swap_38 ⟨Nat.le_of_ble_eq_true rfl, Nat.le_of_ble_eq_true rfl⟩ (fun _ H locs hW => ?_)
      refine lz_ne (tgt := 46) hx hb dX12_swap_41 (by decide) (fun q13 => ?_) (fun q13 => ?_)
      · have h := ifp q13 h
        refine lv_aload_n hx hb dX12_swap_46 rfl (lv_at hl 0 rfl) ?_
        obtain ⟨M15, hc16, h⟩ := bm_some h
        refine cV_v (ci := 12) (q0 := 0) (rest := []) hF hW mw_X12_317 (c_X12_keepTried l K a hc16) ⟨Nat.le_of_ble_eq_true rfl, Nat.le_of_ble_eq_true rfl⟩ rfl rfl (pM_0 K a _) rfl hl.1 rfl (Nat.le_of_ble_eq_true rfl) dX12_swap_47 ⟨Nat.le_of_ble_eq_true rfl, Nat.le_of_ble_eq_true rfl⟩ (fun _ H locs hW => ?_)
        refine lv_aload_n hx hb dX12_swap_50 rfl (lv_at hl 0 rfl) ?_
        refine lv_iload_n hx hb dX12_swap_51 rfl (lv_at hl 1 rfl) ?_
        refine lv_iload_n hx hb dX12_swap_52 rfl (lv_at hl 2 rfl) ?_
        obtain ⟨M18, hc19, h⟩ := bm_some h
        refine cV_v (ci := 12) (q0 := 0) (rest := []) hF hW mw_X12_320 (c_X12_swapRows l K a hc19) ⟨Nat.le_of_ble_eq_true rfl, Nat.le_of_ble_eq_true rfl⟩ rfl rfl (pM_0 K a _) rfl hl.1 rfl (Nat.le_of_ble_eq_true rfl) dX12_swap_53 ⟨Nat.le_of_ble_eq_true rfl, Nat.le_of_ble_eq_true rfl⟩ (fun _ H locs hW => ?_)
        refine lv_aload_n hx hb dX12_swap_56 rfl (lv_at hl 0 rfl) ?_
        obtain ⟨r20, M21, hc22, h⟩ := bd_some h
        refine cV_i (ci := 12) (q0 := 0) (rest := []) hF hW mw_X12_324 (c_X12_turned l K a hc22) ⟨Nat.le_of_ble_eq_true rfl, Nat.le_of_ble_eq_true rfl⟩ rfl rfl (pM_0 K a _) rfl hl.1 rfl (Nat.le_of_ble_eq_true rfl) dX12_swap_57 ⟨Nat.le_of_ble_eq_true rfl, Nat.le_of_ble_eq_true rfl⟩ (fun _ H locs hW => ?_)
        obtain ⟨rfl, rfl⟩ := Prod.mk.inj (Option.some.inj h)
        exact rt_i hF hr hk rfl (fun _ => 0) hW rfl dX12_swap_60
      · have h := ifn q13 h
        refine lv_iconst (v := (-1)) hx hb dX12_swap_44 (by decide) ?_
        obtain ⟨rfl, rfl⟩ := Prod.mk.inj (Option.some.inj h)
        exact rt_i hF hr hk rfl (fun _ => 0) hW rfl dX12_swap_45
    · have h := ifn q8 h
      refine lv_aload_n hx hb dX12_swap_18 rfl (lv_at hl 0 rfl) ?_
      refine lv_iconst (v := 3) hx hb dX12_swap_19 (by decide) ?_
      obtain ⟨r23, M24, hc25, h⟩ := bd_some h
      refine cV_i (ci := 12) (q0 := 0) (rest := []) hF hW mw_X12_207 (c_X12_meets l K a hc25) ⟨Nat.le_of_ble_eq_true rfl, Nat.le_of_ble_eq_true rfl⟩ rfl rfl (pM_0 K a _) rfl hl.1 rfl (Nat.le_of_ble_eq_true rfl) dX12_swap_20 ⟨Nat.le_of_ble_eq_true rfl, Nat.le_of_ble_eq_true rfl⟩ (fun _ H locs hW => ?_)
      obtain ⟨rfl, rfl⟩ := Prod.mk.inj (Option.some.inj h)
      exact rt_i hF hr hk rfl (fun _ => 0) hW rfl dX12_swap_23
  · have h := ifn q4 h
    refine lv_iconst (v := (-1)) hx hb dX12_swap_8 (by decide) ?_
    obtain ⟨rfl, rfl⟩ := Prod.mk.inj (Option.some.inj h)
    exact rt_i hF hr hk rfl (fun _ => 0) hW rfl dX12_swap_9
set_option maxRecDepth 100000 in
set_option maxHeartbeats 1000000 in
theorem c_X12_lean (l : Launch) (K : Kx) (a : Nat → Nat) {M M0 : Mem} {x1 : Int32} {x2 : Int32} {x3 : Int32} {r0 : Int32} (h : f_X12_lean M x1 x2 x3 = some (r0, M0)) : CMi l yX12_lean cX12_lean 9 (some .int) ({ frames := 2, cells := 0, slots := 0, locals := 49 } : Room) K [.ref (a 0), .int x1, .int x2, .int x3] (wM K a M) (fun _ => wM K a M0) r0 := by
  refine cs_i (by decide +kernel) (Nat.le_of_ble_eq_true rfl) ?_
  intro p e s m args below meth c A ls hF hr hk hnm hW hl
  have hx := hF.1
  have hb := hF.2.1
  have hl : lv_has ls 9 [(0, .ref (a 0)), (1, .int x1), (2, .int x2), (3, .int x3)] := hl
  obtain ⟨H, hH⟩ : ∃ z, z = s.heap := ⟨_, rfl⟩
  rw [← hH] at hW ⊢
  have J73 : ∀ (n73 : Nat) (x1 : Int32) (x2 : Int32) (x3 : Int32) (x4 : Int32) (x5 : Int32) (M : Mem) (H : Heap) (locs : List Loc) (ls : Array Slot), f_X12_lean_73 n73 x1 x2 x3 x4 x5 M = some (r0, M0) → Wd K A s (wM K a M) H locs → lv_has ls 9 [(0, .ref (a 0)), (1, .int x1), (2, .int x2), (3, .int x3), (4, .int x4), (5, .int x5)] → W p l e ({ frames := 2, cells := 0, slots := 0, locals := 49 } : Room) s m args below meth c H locs 0 0 (EndI K A (fun _ => wM K a M0) r0 below args s ({ frames := 2, cells := 0, slots := 0, locals := 49 } : Room)) (F0 m 73 ls []) := by
    intro n73
    induction n73 with
    | zero => intro x1 x2 x3 x4 x5 M H locs ls h; exact absurd h (by simp [f_X12_lean_73])
    | succ n73 ih73 =>
      have J135 : ∀ (n135 : Nat) (x1 : Int32) (x2 : Int32) (x3 : Int32) (x4 : Int32) (x5 : Int32) (x6 : Int32) (x7 : Int32) (x8 : Int32) (M : Mem) (H : Heap) (locs : List Loc) (ls : Array Slot), f_X12_lean_135 (f_X12_lean_73 n73) n135 x1 x2 x3 x4 x5 x6 x7 x8 M = some (r0, M0) → Wd K A s (wM K a M) H locs → lv_has ls 9 [(0, .ref (a 0)), (1, .int x1), (2, .int x2), (3, .int x3), (4, .int x4), (5, .int x5), (6, .int x6), (7, .int x7), (8, .int x8)] → W p l e ({ frames := 2, cells := 0, slots := 0, locals := 49 } : Room) s m args below meth c H locs 0 0 (EndI K A (fun _ => wM K a M0) r0 below args s ({ frames := 2, cells := 0, slots := 0, locals := 49 } : Room)) (F0 m 135 ls []) := by
        intro n135
        induction n135 with
        | zero => intro x1 x2 x3 x4 x5 x6 x7 x8 M H locs ls h; exact absurd h (by simp [f_X12_lean_135])
        | succ n135 ih135 =>
          intro x1 x2 x3 x4 x5 x6 x7 x8 M H locs ls h hW hl
          rw [f_X12_lean_135] at h
          refine lv_iload hx hb dX12_lean_135 (lv_at hl 8 rfl) ?_
          refine lv_iconst (v := 5) hx hb dX12_lean_137 (by decide) ?_
          refine lv_icmp_ge (tgt := 180) hx hb dX12_lean_138 (by decide) (fun q47 => ?_) (fun q47 => ?_)
          · have h := ifp q47 h
            refine lv_aload_n hx hb dX12_lean_180 rfl (lv_at hl 0 rfl) ?_
            refine lv_iload hx hb dX12_lean_181 (lv_at hl 6 rfl) ?_
            refine lv_aload_n hx hb dX12_lean_183 rfl (lv_at hl 0 rfl) ?_
            refine g_X12_118 hF hW dX12_lean_184 ?_
            obtain ⟨r48, M49, hc50, h⟩ := bd_some h
            refine cV_i (ci := 12) (q0 := 0) (rest := []) hF hW mw_X12_332 (c_X12_fits l K a hc50) ⟨Nat.le_of_ble_eq_true rfl, Nat.le_of_ble_eq_true rfl⟩ rfl rfl (pM_0 K a _) rfl hl.1 rfl (Nat.le_of_ble_eq_true rfl) dX12_lean_187 ⟨Nat.le_of_ble_eq_true rfl, Nat.le_of_ble_eq_true rfl⟩ (fun _ H locs hW => ?_)
            refine lz_ne (tgt := 200) hx hb dX12_lean_190 (by decide) (fun q51 => ?_) (fun q51 => ?_)
            · have h := ifp q51 h
              refine lv_iinc (v := (x5 + 1)) (lv' := [(5, .int (x5 + 1)), (0, .ref (a 0)), (1, .int x1), (2, .int x2), (3, .int x3), (4, .int x4), (6, .int x6), (7, .int x7), (8, .int x8)]) hx hb dX12_lean_200 hl (k := 5) rfl rfl (by decide) rfl (fun ls hl => ?_)
              refine lv_goto (tgt := 73) hx hb dX12_lean_203 (by decide) ?_
              exact ih73 x1 x2 x3 x4 (x5 + 1) _ _ _ _ h hW (lv_sub hl [1, 2, 3, 4, 5, 0] rfl)
            · have h := ifn q51 h
              refine lv_aload_n hx hb dX12_lean_193 rfl (lv_at hl 0 rfl) ?_
              obtain ⟨M53, hc54, h⟩ := bm_some h
              refine cV_v (ci := 12) (q0 := 0) (rest := []) hF hW mw_X12_336 (c_X12_giveTried l K a hc54) ⟨Nat.le_of_ble_eq_true rfl, Nat.le_of_ble_eq_true rfl⟩ rfl rfl (pM_0 K a _) rfl hl.1 rfl (Nat.le_of_ble_eq_true rfl) dX12_lean_194 ⟨Nat.le_of_ble_eq_true rfl, Nat.le_of_ble_eq_true rfl⟩ (fun _ H locs hW => ?_)
              refine lv_bipush (v := (-6)) hx hb dX12_lean_197 (by decide) ?_
              obtain ⟨rfl, rfl⟩ := Prod.mk.inj (Option.some.inj h)
              exact rt_i hF hr hk rfl (fun _ => 0) hW rfl dX12_lean_199
          · have h := ifn q47 h
            refine lv_aload_n hx hb dX12_lean_141 rfl (lv_at hl 0 rfl) ?_
            refine g_X12_118 hF hW dX12_lean_142 ?_
            refine lv_iload hx hb dX12_lean_145 (lv_at hl 8 rfl) ?_
            refine lv_aload_n hx hb dX12_lean_147 rfl (lv_at hl 0 rfl) ?_
            refine g_X12_102 hF hW dX12_lean_148 ?_
            refine lv_iload hx hb dX12_lean_151 (lv_at hl 6 rfl) ?_
            refine lv_iload hx hb dX12_lean_153 (lv_at hl 8 rfl) ?_
            refine lv_iadd hx hb dX12_lean_155 ?_
            obtain ⟨q55, h⟩ := ck_some h
            refine w_ild hF hW (pM_31 K a _) q55 dX12_lean_156 ?_
            refine lv_i2l hx hb dX12_lean_157 rfl ?_
            refine lv_iload_n hx hb dX12_lean_158 rfl (lv_at hl 3 rfl) ?_
            refine lv_i2l hx hb dX12_lean_159 rfl ?_
            refine lv_aload_n hx hb dX12_lean_160 rfl (lv_at hl 0 rfl) ?_
            refine g_X12_102 hF hW dX12_lean_161 ?_
            refine lv_iload hx hb dX12_lean_164 (lv_at hl 7 rfl) ?_
            refine lv_iload hx hb dX12_lean_166 (lv_at hl 8 rfl) ?_
            refine lv_iadd hx hb dX12_lean_168 ?_
            obtain ⟨q56, h⟩ := ck_some h
            refine w_ild hF hW (pM_31 K a _) q56 dX12_lean_169 ?_
            refine lv_i2l hx hb dX12_lean_170 rfl ?_
            refine lv_lmul hx hb dX12_lean_171 ?_
            refine lv_ladd hx hb dX12_lean_172 ?_
            obtain ⟨q57, h⟩ := ck_some h
            refine w_lst hF hW (pM_36 K a _) q57 (uM_36 K a _ _ _) dX12_lean_173 (fun H locs hW => ?_)
            refine lv_iinc (v := (x8 + 1)) (lv' := [(8, .int (x8 + 1)), (0, .ref (a 0)), (1, .int x1), (2, .int x2), (3, .int x3), (4, .int x4), (5, .int x5), (6, .int x6), (7, .int x7)]) hx hb dX12_lean_174 hl (k := 8) rfl rfl (by decide) rfl (fun ls hl => ?_)
            refine lv_goto (tgt := 135) hx hb dX12_lean_177 (by decide) ?_
            exact ih135 x1 x2 x3 x4 x5 x6 x7 (x8 + 1) _ _ _ _ h hW (lv_sub hl [1, 2, 3, 4, 5, 6, 7, 8, 0] rfl)
      intro x1 x2 x3 x4 x5 M H locs ls h hW hl
      rw [f_X12_lean_73] at h
      refine lv_iload hx hb dX12_lean_73 (lv_at hl 5 rfl) ?_
      refine lv_aload_n hx hb dX12_lean_75 rfl (lv_at hl 0 rfl) ?_
      refine g_X12_170 hF hW dX12_lean_76 ?_
      refine lv_icmp_ge (tgt := 206) hx hb dX12_lean_79 (by decide) (fun q25 => ?_) (fun q25 => ?_)
      · have h := ifp q25 h
        refine lv_aload_n hx hb dX12_lean_206 rfl (lv_at hl 0 rfl) ?_
        obtain ⟨r26, M27, hc28, h⟩ := bd_some h
        refine cV_i (ci := 12) (q0 := 0) (rest := []) hF hW mw_X12_324 (c_X12_turned l K a hc28) ⟨Nat.le_of_ble_eq_true rfl, Nat.le_of_ble_eq_true rfl⟩ rfl rfl (pM_0 K a _) rfl hl.1 rfl (Nat.le_of_ble_eq_true rfl) dX12_lean_207 ⟨Nat.le_of_ble_eq_true rfl, Nat.le_of_ble_eq_true rfl⟩ (fun _ H locs hW => ?_)
        obtain ⟨rfl, rfl⟩ := Prod.mk.inj (Option.some.inj h)
        exact rt_i hF hr hk rfl (fun _ => 0) hW rfl dX12_lean_210
      · have h := ifn q25 h
        refine lv_aload_n hx hb dX12_lean_82 rfl (lv_at hl 0 rfl) ?_
        refine lv_iload hx hb dX12_lean_83 (lv_at hl 5 rfl) ?_
        refine lv_iload_n hx hb dX12_lean_85 rfl (lv_at hl 1 rfl) ?_
        obtain ⟨r29, hc31, h⟩ := bq_some h
        refine cV_i (ci := 12) (q0 := 0) (rest := []) hF hW mw_X12_311 (c_X12_isActIn l K a hc31) ⟨Nat.le_of_ble_eq_true rfl, Nat.le_of_ble_eq_true rfl⟩ rfl rfl (pM_0 K a _) rfl hl.1 rfl (Nat.le_of_ble_eq_true rfl) dX12_lean_86 ⟨Nat.le_of_ble_eq_true rfl, Nat.le_of_ble_eq_true rfl⟩ (fun _ H locs hW => ?_)
        refine lz_eq (tgt := 200) hx hb dX12_lean_89 (by decide) (fun q32 => ?_) (fun q32 => ?_)
        · have h := ifn q32 h
          refine lv_iinc (v := (x5 + 1)) (lv' := [(5, .int (x5 + 1)), (0, .ref (a 0)), (1, .int x1), (2, .int x2), (3, .int x3), (4, .int x4)]) hx hb dX12_lean_200 hl (k := 5) rfl rfl (by decide) rfl (fun ls hl => ?_)
          refine lv_goto (tgt := 73) hx hb dX12_lean_203 (by decide) ?_
          exact ih73 x1 x2 x3 x4 (x5 + 1) _ _ _ _ h hW (lv_sub hl [1, 2, 3, 4, 5, 0] rfl)
        · have h := ifp q32 h
          refine lv_aload_n hx hb dX12_lean_92 rfl (lv_at hl 0 rfl) ?_
          refine g_X12_32 hF hW dX12_lean_93 ?_
          refine lv_iload hx hb dX12_lean_96 (lv_at hl 5 rfl) ?_
          obtain ⟨q33, h⟩ := ck_some h
          refine w_ild hF hW (pM_8 K a _) q33 dX12_lean_98 ?_
          refine lv_iload_n hx hb dX12_lean_99 rfl (lv_at hl 2 rfl) ?_
          refine lv_icmp_le (tgt := 200) hx hb dX12_lean_100 (by decide) (fun q34 => ?_) (fun q34 => ?_)
          · have h := ifp q34 h
            refine lv_iinc (v := (x5 + 1)) (lv' := [(5, .int (x5 + 1)), (0, .ref (a 0)), (1, .int x1), (2, .int x2), (3, .int x3), (4, .int x4)]) hx hb dX12_lean_200 hl (k := 5) rfl rfl (by decide) rfl (fun ls hl => ?_)
            refine lv_goto (tgt := 73) hx hb dX12_lean_203 (by decide) ?_
            exact ih73 x1 x2 x3 x4 (x5 + 1) _ _ _ _ h hW (lv_sub hl [1, 2, 3, 4, 5, 0] rfl)
          · have h := ifn q34 h
            refine lv_iload hx hb dX12_lean_103 (lv_at hl 5 rfl) ?_
            refine lv_aload_n hx hb dX12_lean_105 rfl (lv_at hl 0 rfl) ?_
            refine lv_iload hx hb dX12_lean_106 (lv_at hl 5 rfl) ?_
            refine lv_iload hx hb dX12_lean_108 (lv_at hl 4 rfl) ?_
            obtain ⟨r35, hc37, h⟩ := bq_some h
            refine cV_i (ci := 12) (q0 := 0) (rest := [.int x5]) hF hW mw_X12_314 (c_X12_loopRow l K a hc37) ⟨Nat.le_of_ble_eq_true rfl, Nat.le_of_ble_eq_true rfl⟩ rfl rfl (pM_0 K a _) rfl hl.1 rfl (Nat.le_of_ble_eq_true rfl) dX12_lean_110 ⟨Nat.le_of_ble_eq_true rfl, Nat.le_of_ble_eq_true rfl⟩ (fun _ H locs hW => ?_)
            obtain ⟨r38, hc40, h⟩ := bq_some h
            refine cS_i (rest := []) hF hW mw_X12_295 (c_X12_rowAt l K hc40) ⟨Nat.le_of_ble_eq_true rfl, Nat.le_of_ble_eq_true rfl⟩ rfl hl.1 rfl (Nat.le_of_ble_eq_true rfl) dX12_lean_113 ⟨Nat.le_of_ble_eq_true rfl, Nat.le_of_ble_eq_true rfl⟩ (fun _ H locs hW => ?_)
            refine lv_istore (lv' := [(6, .int r38), (0, .ref (a 0)), (1, .int x1), (2, .int x2), (3, .int x3), (4, .int x4), (5, .int x5)]) hx hb dX12_lean_116 hl (by decide) rfl (fun ls hl => ?_)
            refine lv_iload hx hb dX12_lean_118 (lv_at hl 6 rfl) ?_
            refine lv_aload_n hx hb dX12_lean_120 rfl (lv_at hl 1 rfl) ?_
            refine lv_iload hx hb dX12_lean_121 (lv_at hl 6 rfl) ?_
            refine lv_iload_n hx hb dX12_lean_123 rfl (lv_at hl 3 rfl) ?_
            obtain ⟨r41, hc43, h⟩ := bq_some h
            refine cV_i (ci := 12) (q0 := 0) (rest := [.int x5]) hF hW mw_X12_314 (c_X12_loopRow l K a hc43) ⟨Nat.le_of_ble_eq_true rfl, Nat.le_of_ble_eq_true rfl⟩ rfl rfl (pM_0 K a _) rfl hl.1 rfl (Nat.le_of_ble_eq_true rfl) dX12_lean_124 ⟨Nat.le_of_ble_eq_true rfl, Nat.le_of_ble_eq_true rfl⟩ (fun _ H locs hW => ?_)
            obtain ⟨r44, hc46, h⟩ := bq_some h
            refine cS_i (rest := []) hF hW mw_X12_295 (c_X12_rowAt l K hc46) ⟨Nat.le_of_ble_eq_true rfl, Nat.le_of_ble_eq_true rfl⟩ rfl hl.1 rfl (Nat.le_of_ble_eq_true rfl) dX12_lean_127 ⟨Nat.le_of_ble_eq_true rfl, Nat.le_of_ble_eq_true rfl⟩ (fun _ H locs hW => ?_)
            refine lv_istore (lv' := [(7, .int r44), (6, .int r38), (0, .ref (a 0)), (1, .int x1), (2, .int x2), (3, .int x3), (4, .int x4), (5, .int x5)]) hx hb dX12_lean_130 hl (by decide) rfl (fun ls hl => ?_)
            refine lv_iconst (v := 0) hx hb dX12_lean_132 (by decide) ?_
            refine lv_istore (lv' := [(8, .int 0), (7, .int r44), (6, .int r38), (0, .ref (a 0)), (1, .int x1), (2, .int x2), (3, .int x3), (4, .int x4), (5, .int x5)]) hx hb dX12_lean_133 hl (by decide) rfl (fun ls hl => ?_)
            exact J135 100000 x1 x2 x3 x4 x5 r38 r44 0 _ _ _ _ h hW (lv_sub hl [3, 4, 5, 6, 7, 8, 2, 1, 0] rfl)
  unfold f_X12_lean at h
  refine lv_aload_n hx hb dX12_lean_0 rfl (lv_at hl 0 rfl) ?_
  refine lv_iload_n hx hb dX12_lean_1 rfl (lv_at hl 1 rfl) ?_
  obtain ⟨r1, hc3, h⟩ := bq_some h
  refine cV_i (ci := 12) (q0 := 0) (rest := []) hF hW mw_X12_177 (c_X12_isNode l K a hc3) ⟨Nat.le_of_ble_eq_true rfl, Nat.le_of_ble_eq_true rfl⟩ rfl rfl (pM_0 K a _) rfl hl.1 rfl (Nat.le_of_ble_eq_true rfl) dX12_lean_2 ⟨Nat.le_of_ble_eq_true rfl, Nat.le_of_ble_eq_true rfl⟩ (fun _ H locs hW => ?_)
  refine lz_eq (tgt := 34) hx hb dX12_lean_5 (by decide) (fun q4 => ?_) (fun q4 => ?_)
  · have h := ifn q4 h
    refine lv_iconst (v := (-1)) hx hb dX12_lean_34 (by decide) ?_
    obtain ⟨rfl, rfl⟩ := Prod.mk.inj (Option.some.inj h)
    exact rt_i hF hr hk rfl (fun _ => 0) hW rfl dX12_lean_35
  · have h := ifp q4 h
    refine lv_iload_n hx hb dX12_lean_8 rfl (lv_at hl 2 rfl) ?_
    refine lv_i2l hx hb dX12_lean_9 rfl ?_
    refine lv_lconst (v := 0) hx hb dX12_lean_10 (by decide) ?_
    refine lv_ldc2 hx hb hF.2.2.2.1 (hF.2.2.1 _ kl_X12_212) dX12_lean_11 ?_
    obtain ⟨r5, hc7, h⟩ := bq_some h
    refine cS_i (rest := []) hF hW mw_X12_154 (c_X12_in l K hc7) ⟨Nat.le_of_ble_eq_true rfl, Nat.le_of_ble_eq_true rfl⟩ rfl hl.1 rfl (Nat.le_of_ble_eq_true rfl) dX12_lean_14 ⟨Nat.le_of_ble_eq_true rfl, Nat.le_of_ble_eq_true rfl⟩ (fun _ H locs hW => ?_)
    refine lz_eq (tgt := 34) hx hb dX12_lean_17 (by decide) (fun q8 => ?_) (fun q8 => ?_)
    · have h := ifn q8 h
      refine lv_iconst (v := (-1)) hx hb dX12_lean_34 (by decide) ?_
      obtain ⟨rfl, rfl⟩ := Prod.mk.inj (Option.some.inj h)
      exact rt_i hF hr hk rfl (fun _ => 0) hW rfl dX12_lean_35
    · have h := ifp q8 h
      refine lv_iload_n hx hb dX12_lean_20 rfl (lv_at hl 3 rfl) ?_
      refine lv_i2l hx hb dX12_lean_21 rfl ?_
      refine lv_ldc2 hx hb hF.2.2.2.1 (hF.2.2.1 _ kl_X12_328) dX12_lean_22 ?_
      refine lv_ldc2 hx hb hF.2.2.2.1 (hF.2.2.1 _ kl_X12_330) dX12_lean_25 ?_
      obtain ⟨r9, hc11, h⟩ := bq_some h
      refine cS_i (rest := []) hF hW mw_X12_154 (c_X12_in l K hc11) ⟨Nat.le_of_ble_eq_true rfl, Nat.le_of_ble_eq_true rfl⟩ rfl hl.1 rfl (Nat.le_of_ble_eq_true rfl) dX12_lean_28 ⟨Nat.le_of_ble_eq_true rfl, Nat.le_of_ble_eq_true rfl⟩ (fun _ H locs hW => ?_)
      refine lz_ne (tgt := 36) hx hb dX12_lean_31 (by decide) (fun q12 => ?_) (fun q12 => ?_)
      · have h := ifp q12 h
        refine lv_aload_n hx hb dX12_lean_36 rfl (lv_at hl 0 rfl) ?_
        refine lv_iload_n hx hb dX12_lean_37 rfl (lv_at hl 1 rfl) ?_
        obtain ⟨r13, hc15, h⟩ := bq_some h
        refine cV_i (ci := 12) (q0 := 0) (rest := []) hF hW mw_X12_173 (c_X12_isLoop l K a hc15) ⟨Nat.le_of_ble_eq_true rfl, Nat.le_of_ble_eq_true rfl⟩ rfl rfl (pM_0 K a _) rfl hl.1 rfl (Nat.le_of_ble_eq_true rfl) dX12_lean_38 ⟨Nat.le_of_ble_eq_true rfl, Nat.le_of_ble_eq_true rfl⟩ (fun _ H locs hW => ?_)
        refine lz_ne (tgt := 50) hx hb dX12_lean_41 (by decide) (fun q16 => ?_) (fun q16 => ?_)
        · have h := ifp q16 h
          refine lv_aload_n hx hb dX12_lean_50 rfl (lv_at hl 0 rfl) ?_
          refine g_X12_32 hF hW dX12_lean_51 ?_
          refine lv_iload_n hx hb dX12_lean_54 rfl (lv_at hl 1 rfl) ?_
          obtain ⟨q17, h⟩ := ck_some h
          refine w_ild hF hW (pM_8 K a _) q17 dX12_lean_55 ?_
          refine lv_istore (lv' := [(4, .int (M.1 8 x1.toNatClampNeg)), (0, .ref (a 0)), (1, .int x1), (2, .int x2), (3, .int x3)]) hx hb dX12_lean_56 hl (by decide) rfl (fun ls hl => ?_)
          refine lv_iload_n hx hb dX12_lean_58 rfl (lv_at hl 3 rfl) ?_
          refine lv_iload hx hb dX12_lean_59 (lv_at hl 0 rfl) ?_
          refine lv_icmp_ne (tgt := 66) hx hb dX12_lean_61 (by decide) (fun q18 => ?_) (fun q18 => ?_)
          · have h := ifn q18 h
            refine lv_aload_n hx hb dX12_lean_66 rfl (lv_at hl 1 rfl) ?_
            obtain ⟨M20, hc21, h⟩ := bm_some h
            refine cV_v (ci := 12) (q0 := 0) (rest := []) hF hW mw_X12_317 (c_X12_keepTried l K a hc21) ⟨Nat.le_of_ble_eq_true rfl, Nat.le_of_ble_eq_true rfl⟩ rfl rfl (pM_0 K a _) rfl hl.1 rfl (Nat.le_of_ble_eq_true rfl) dX12_lean_67 ⟨Nat.le_of_ble_eq_true rfl, Nat.le_of_ble_eq_true rfl⟩ (fun _ H locs hW => ?_)
            refine lv_iconst (v := 0) hx hb dX12_lean_70 (by decide) ?_
            refine lv_istore (lv' := [(5, .int 0), (4, .int (M.1 8 x1.toNatClampNeg)), (0, .ref (a 0)), (1, .int x1), (2, .int x2), (3, .int x3)]) hx hb dX12_lean_71 hl (by decide) rfl (fun ls hl => ?_)
            exact J73 100000 x1 x2 x3 (M.1 8 x1.toNatClampNeg) 0 _ _ _ _ h hW (lv_sub hl [2, 3, 4, 5, 1, 0] rfl)
          · have h := ifp q18 h
            refine lv_iconst (v := (-1)) hx hb dX12_lean_64 (by decide) ?_
            obtain ⟨rfl, rfl⟩ := Prod.mk.inj (Option.some.inj h)
            exact rt_i hF hr hk rfl (fun _ => 0) hW rfl dX12_lean_65
        · have h := ifn q16 h
          refine lv_aload_n hx hb dX12_lean_44 rfl (lv_at hl 0 rfl) ?_
          refine lv_iconst (v := 3) hx hb dX12_lean_45 (by decide) ?_
          obtain ⟨r22, M23, hc24, h⟩ := bd_some h
          refine cV_i (ci := 12) (q0 := 0) (rest := []) hF hW mw_X12_207 (c_X12_meets l K a hc24) ⟨Nat.le_of_ble_eq_true rfl, Nat.le_of_ble_eq_true rfl⟩ rfl rfl (pM_0 K a _) rfl hl.1 rfl (Nat.le_of_ble_eq_true rfl) dX12_lean_46 ⟨Nat.le_of_ble_eq_true rfl, Nat.le_of_ble_eq_true rfl⟩ (fun _ H locs hW => ?_)
          obtain ⟨rfl, rfl⟩ := Prod.mk.inj (Option.some.inj h)
          exact rt_i hF hr hk rfl (fun _ => 0) hW rfl dX12_lean_49
      · have h := ifn q12 h
        refine lv_iconst (v := (-1)) hx hb dX12_lean_34 (by decide) ?_
        obtain ⟨rfl, rfl⟩ := Prod.mk.inj (Option.some.inj h)
        exact rt_i hF hr hk rfl (fun _ => 0) hW rfl dX12_lean_35
set_option maxRecDepth 100000 in
set_option maxHeartbeats 1000000 in
theorem c_X12_turnBack (l : Launch) (K : Kx) (a : Nat → Nat) {M M0 : Mem} {x1 : Int32}  (h : f_X12_turnBack M x1 = some M0) : CMv l yX12_turnBack cX12_turnBack 5 ({ frames := 2, cells := 0, slots := 0, locals := 45 } : Room) K [.ref (a 0), .int x1] (wM K a M) (fun _ => wM K a M0) := by
  refine cs_v (by decide +kernel) (Nat.le_of_ble_eq_true rfl) ?_
  intro p e s m args below meth c A ls hF hr hk hnm hW hl
  have hx := hF.1
  have hb := hF.2.1
  have hl : lv_has ls 5 [(0, .ref (a 0)), (1, .int x1)] := hl
  obtain ⟨H, hH⟩ : ∃ z, z = s.heap := ⟨_, rfl⟩
  rw [← hH] at hW ⊢
  have J2 : ∀ (n2 : Nat) (x1 : Int32) (x2 : Int32) (M : Mem) (H : Heap) (locs : List Loc) (ls : Array Slot), f_X12_turnBack_2 n2 x1 x2 M = some M0 → Wd K A s (wM K a M) H locs → lv_has ls 5 [(0, .ref (a 0)), (1, .int x1), (2, .int x2)] → W p l e ({ frames := 2, cells := 0, slots := 0, locals := 45 } : Room) s m args below meth c H locs 0 0 (EndV K A (fun _ => wM K a M0) below args s ({ frames := 2, cells := 0, slots := 0, locals := 45 } : Room)) (F0 m 2 ls []) := by
    intro n2
    induction n2 with
    | zero => intro x1 x2 M H locs ls h; exact absurd h (by simp [f_X12_turnBack_2])
    | succ n2 ih2 =>
      have J38 : ∀ (n38 : Nat) (x1 : Int32) (x2 : Int32) (x3 : Int32) (x4 : Int32) (M : Mem) (H : Heap) (locs : List Loc) (ls : Array Slot), f_X12_turnBack_38 (f_X12_turnBack_2 n2) n38 x1 x2 x3 x4 M = some M0 → Wd K A s (wM K a M) H locs → lv_has ls 5 [(0, .ref (a 0)), (1, .int x1), (2, .int x2), (3, .int x3), (4, .int x4)] → W p l e ({ frames := 2, cells := 0, slots := 0, locals := 45 } : Room) s m args below meth c H locs 0 0 (EndV K A (fun _ => wM K a M0) below args s ({ frames := 2, cells := 0, slots := 0, locals := 45 } : Room)) (F0 m 38 ls []) := by
        intro n38
        induction n38 with
        | zero => intro x1 x2 x3 x4 M H locs ls h; exact absurd h (by simp [f_X12_turnBack_38])
        | succ n38 ih38 =>
          intro x1 x2 x3 x4 M H locs ls h hW hl
          rw [f_X12_turnBack_38] at h
          refine lv_iload hx hb dX12_turnBack_38 (lv_at hl 4 rfl) ?_
          refine lv_iconst (v := 5) hx hb dX12_turnBack_40 (by decide) ?_
          refine lv_icmp_ge (tgt := 69) hx hb dX12_turnBack_41 (by decide) (fun q13 => ?_) (fun q13 => ?_)
          · have h := ifp q13 h
            refine lv_iinc (v := (x2 + 1)) (lv' := [(2, .int (x2 + 1)), (0, .ref (a 0)), (1, .int x1), (3, .int x3), (4, .int x4)]) hx hb dX12_turnBack_69 hl (k := 2) rfl rfl (by decide) rfl (fun ls hl => ?_)
            refine lv_goto (tgt := 2) hx hb dX12_turnBack_72 (by decide) ?_
            exact ih2 x1 (x2 + 1) _ _ _ _ h hW (lv_sub hl [1, 2, 0] rfl)
          · have h := ifn q13 h
            refine lv_aload_n hx hb dX12_turnBack_44 rfl (lv_at hl 0 rfl) ?_
            refine g_X12_102 hF hW dX12_turnBack_45 ?_
            refine lv_iload_n hx hb dX12_turnBack_48 rfl (lv_at hl 3 rfl) ?_
            refine lv_iload hx hb dX12_turnBack_49 (lv_at hl 4 rfl) ?_
            refine lv_iadd hx hb dX12_turnBack_51 ?_
            refine lv_aload_n hx hb dX12_turnBack_52 rfl (lv_at hl 0 rfl) ?_
            refine g_X12_102 hF hW dX12_turnBack_53 ?_
            refine lv_iload_n hx hb dX12_turnBack_56 rfl (lv_at hl 3 rfl) ?_
            refine lv_iload hx hb dX12_turnBack_57 (lv_at hl 4 rfl) ?_
            refine lv_iadd hx hb dX12_turnBack_59 ?_
            obtain ⟨q14, h⟩ := ck_some h
            refine w_ild hF hW (pM_31 K a _) q14 dX12_turnBack_60 ?_
            refine lv_ineg hx hb dX12_turnBack_61 ?_
            obtain ⟨q15, h⟩ := ck_some h
            refine w_ist hF hW (pM_31 K a _) q15 (uM_31 K a _ _ _) dX12_turnBack_62 (fun H locs hW => ?_)
            refine lv_iinc (v := (x4 + 1)) (lv' := [(4, .int (x4 + 1)), (0, .ref (a 0)), (1, .int x1), (2, .int x2), (3, .int x3)]) hx hb dX12_turnBack_63 hl (k := 4) rfl rfl (by decide) rfl (fun ls hl => ?_)
            refine lv_goto (tgt := 38) hx hb dX12_turnBack_66 (by decide) ?_
            exact ih38 x1 x2 x3 (x4 + 1) _ _ _ _ h hW (lv_sub hl [1, 2, 3, 4, 0] rfl)
      intro x1 x2 M H locs ls h hW hl
      rw [f_X12_turnBack_2] at h
      refine lv_iload_n hx hb dX12_turnBack_2 rfl (lv_at hl 2 rfl) ?_
      refine lv_aload_n hx hb dX12_turnBack_3 rfl (lv_at hl 0 rfl) ?_
      refine g_X12_170 hF hW dX12_turnBack_4 ?_
      refine lv_icmp_ge (tgt := 75) hx hb dX12_turnBack_7 (by decide) (fun q1 => ?_) (fun q1 => ?_)
      · have h := ifp q1 h
        obtain rfl := Option.some.inj h
        exact rt_v hF hr hk (fun _ => 0) hW dX12_turnBack_75
      · have h := ifn q1 h
        refine lv_aload_n hx hb dX12_turnBack_10 rfl (lv_at hl 0 rfl) ?_
        refine lv_iload_n hx hb dX12_turnBack_11 rfl (lv_at hl 2 rfl) ?_
        refine lv_iload_n hx hb dX12_turnBack_12 rfl (lv_at hl 1 rfl) ?_
        obtain ⟨r2, hc4, h⟩ := bq_some h
        refine cV_i (ci := 12) (q0 := 0) (rest := []) hF hW mw_X12_311 (c_X12_isActIn l K a hc4) ⟨Nat.le_of_ble_eq_true rfl, Nat.le_of_ble_eq_true rfl⟩ rfl rfl (pM_0 K a _) rfl hl.1 rfl (Nat.le_of_ble_eq_true rfl) dX12_turnBack_13 ⟨Nat.le_of_ble_eq_true rfl, Nat.le_of_ble_eq_true rfl⟩ (fun _ H locs hW => ?_)
        refine lz_eq (tgt := 69) hx hb dX12_turnBack_16 (by decide) (fun q5 => ?_) (fun q5 => ?_)
        · have h := ifn q5 h
          refine lv_iinc (v := (x2 + 1)) (lv' := [(2, .int (x2 + 1)), (0, .ref (a 0)), (1, .int x1)]) hx hb dX12_turnBack_69 hl (k := 2) rfl rfl (by decide) rfl (fun ls hl => ?_)
          refine lv_goto (tgt := 2) hx hb dX12_turnBack_72 (by decide) ?_
          exact ih2 x1 (x2 + 1) _ _ _ _ h hW (lv_sub hl [1, 2, 0] rfl)
        · have h := ifp q5 h
          refine lv_iload_n hx hb dX12_turnBack_19 rfl (lv_at hl 2 rfl) ?_
          refine lv_aload_n hx hb dX12_turnBack_20 rfl (lv_at hl 0 rfl) ?_
          refine lv_iload_n hx hb dX12_turnBack_21 rfl (lv_at hl 2 rfl) ?_
          refine lv_aload_n hx hb dX12_turnBack_22 rfl (lv_at hl 0 rfl) ?_
          refine g_X12_32 hF hW dX12_turnBack_23 ?_
          refine lv_iload_n hx hb dX12_turnBack_26 rfl (lv_at hl 1 rfl) ?_
          obtain ⟨q6, h⟩ := ck_some h
          refine w_ild hF hW (pM_8 K a _) q6 dX12_turnBack_27 ?_
          obtain ⟨r7, hc9, h⟩ := bq_some h
          refine cV_i (ci := 12) (q0 := 0) (rest := [.int x2]) hF hW mw_X12_314 (c_X12_loopRow l K a hc9) ⟨Nat.le_of_ble_eq_true rfl, Nat.le_of_ble_eq_true rfl⟩ rfl rfl (pM_0 K a _) rfl hl.1 rfl (Nat.le_of_ble_eq_true rfl) dX12_turnBack_28 ⟨Nat.le_of_ble_eq_true rfl, Nat.le_of_ble_eq_true rfl⟩ (fun _ H locs hW => ?_)
          obtain ⟨r10, hc12, h⟩ := bq_some h
          refine cS_i (rest := []) hF hW mw_X12_295 (c_X12_rowAt l K hc12) ⟨Nat.le_of_ble_eq_true rfl, Nat.le_of_ble_eq_true rfl⟩ rfl hl.1 rfl (Nat.le_of_ble_eq_true rfl) dX12_turnBack_31 ⟨Nat.le_of_ble_eq_true rfl, Nat.le_of_ble_eq_true rfl⟩ (fun _ H locs hW => ?_)
          refine lv_istore_n (lv' := [(3, .int r10), (0, .ref (a 0)), (1, .int x1), (2, .int x2)]) hx hb dX12_turnBack_34 rfl hl (by decide) rfl (fun ls hl => ?_)
          refine lv_iconst (v := 0) hx hb dX12_turnBack_35 (by decide) ?_
          refine lv_istore (lv' := [(4, .int 0), (3, .int r10), (0, .ref (a 0)), (1, .int x1), (2, .int x2)]) hx hb dX12_turnBack_36 hl (by decide) rfl (fun ls hl => ?_)
          exact J38 100000 x1 x2 r10 0 _ _ _ _ h hW (lv_sub hl [2, 3, 4, 1, 0] rfl)
  unfold f_X12_turnBack at h
  refine lv_iconst (v := 0) hx hb dX12_turnBack_0 (by decide) ?_
  refine lv_istore_n (lv' := [(2, .int 0), (0, .ref (a 0)), (1, .int x1)]) hx hb dX12_turnBack_1 rfl hl (by decide) rfl (fun ls hl => ?_)
  exact J2 100000 x1 0 _ _ _ _ h hW (lv_sub hl [1, 2, 0] rfl)
set_option maxRecDepth 100000 in
set_option maxHeartbeats 1000000 in
theorem c_X12_back (l : Launch) (K : Kx) (a : Nat → Nat) {M M0 : Mem} {x1 : Int32} {r0 : Int32} (h : f_X12_back M x1 = some (r0, M0)) : CMi l yX12_back cX12_back 2 (some .int) ({ frames := 3, cells := 0, slots := 0, locals := 69 } : Room) K [.ref (a 0), .int x1] (wM K a M) (fun _ => wM K a M0) r0 := by
  refine cs_i (by decide +kernel) (Nat.le_of_ble_eq_true rfl) ?_
  intro p e s m args below meth c A ls hF hr hk hnm hW hl
  have hx := hF.1
  have hb := hF.2.1
  have hl : lv_has ls 2 [(0, .ref (a 0)), (1, .int x1)] := hl
  obtain ⟨H, hH⟩ : ∃ z, z = s.heap := ⟨_, rfl⟩
  rw [← hH] at hW ⊢
  unfold f_X12_back at h
  refine lv_aload_n hx hb dX12_back_0 rfl (lv_at hl 0 rfl) ?_
  refine lv_iload_n hx hb dX12_back_1 rfl (lv_at hl 1 rfl) ?_
  obtain ⟨r1, hc3, h⟩ := bq_some h
  refine cV_i (ci := 12) (q0 := 0) (rest := []) hF hW mw_X12_177 (c_X12_isNode l K a hc3) ⟨Nat.le_of_ble_eq_true rfl, Nat.le_of_ble_eq_true rfl⟩ rfl rfl (pM_0 K a _) rfl hl.1 rfl (Nat.le_of_ble_eq_true rfl) dX12_back_2 ⟨Nat.le_of_ble_eq_true rfl, Nat.le_of_ble_eq_true rfl⟩ (fun _ H locs hW => ?_)
  refine lz_ne (tgt := 10) hx hb dX12_back_5 (by decide) (fun q4 => ?_) (fun q4 => ?_)
  · have h := ifp q4 h
    refine lv_aload_n hx hb dX12_back_10 rfl (lv_at hl 0 rfl) ?_
    refine lv_iload_n hx hb dX12_back_11 rfl (lv_at hl 1 rfl) ?_
    obtain ⟨r5, hc7, h⟩ := bq_some h
    refine cV_i (ci := 12) (q0 := 0) (rest := []) hF hW mw_X12_173 (c_X12_isLoop l K a hc7) ⟨Nat.le_of_ble_eq_true rfl, Nat.le_of_ble_eq_true rfl⟩ rfl rfl (pM_0 K a _) rfl hl.1 rfl (Nat.le_of_ble_eq_true rfl) dX12_back_12 ⟨Nat.le_of_ble_eq_true rfl, Nat.le_of_ble_eq_true rfl⟩ (fun _ H locs hW => ?_)
    refine lz_ne (tgt := 24) hx hb dX12_back_15 (by decide) (fun q8 => ?_) (fun q8 => ?_)
    · have h := ifp q8 h
      refine lv_aload_n hx hb dX12_back_24 rfl (lv_at hl 0 rfl) ?_
      obtain ⟨M10, hc11, h⟩ := bm_some h
      refine cV_v (ci := 12) (q0 := 0) (rest := []) hF hW mw_X12_317 (c_X12_keepTried l K a hc11) ⟨Nat.le_of_ble_eq_true rfl, Nat.le_of_ble_eq_true rfl⟩ rfl rfl (pM_0 K a _) rfl hl.1 rfl (Nat.le_of_ble_eq_true rfl) dX12_back_25 ⟨Nat.le_of_ble_eq_true rfl, Nat.le_of_ble_eq_true rfl⟩ (fun _ H locs hW => ?_)
      refine lv_aload_n hx hb dX12_back_28 rfl (lv_at hl 0 rfl) ?_
      refine lv_iload_n hx hb dX12_back_29 rfl (lv_at hl 1 rfl) ?_
      obtain ⟨M13, hc14, h⟩ := bm_some h
      refine cV_v (ci := 12) (q0 := 0) (rest := []) hF hW mw_X12_339 (c_X12_turnBack l K a hc14) ⟨Nat.le_of_ble_eq_true rfl, Nat.le_of_ble_eq_true rfl⟩ rfl rfl (pM_0 K a _) rfl hl.1 rfl (Nat.le_of_ble_eq_true rfl) dX12_back_30 ⟨Nat.le_of_ble_eq_true rfl, Nat.le_of_ble_eq_true rfl⟩ (fun _ H locs hW => ?_)
      refine lv_aload_n hx hb dX12_back_33 rfl (lv_at hl 0 rfl) ?_
      obtain ⟨r15, M16, hc17, h⟩ := bd_some h
      refine cV_i (ci := 12) (q0 := 0) (rest := []) hF hW mw_X12_324 (c_X12_turned l K a hc17) ⟨Nat.le_of_ble_eq_true rfl, Nat.le_of_ble_eq_true rfl⟩ rfl rfl (pM_0 K a _) rfl hl.1 rfl (Nat.le_of_ble_eq_true rfl) dX12_back_34 ⟨Nat.le_of_ble_eq_true rfl, Nat.le_of_ble_eq_true rfl⟩ (fun _ H locs hW => ?_)
      obtain ⟨rfl, rfl⟩ := Prod.mk.inj (Option.some.inj h)
      exact rt_i hF hr hk rfl (fun _ => 0) hW rfl dX12_back_37
    · have h := ifn q8 h
      refine lv_aload_n hx hb dX12_back_18 rfl (lv_at hl 0 rfl) ?_
      refine lv_iconst (v := 3) hx hb dX12_back_19 (by decide) ?_
      obtain ⟨r18, M19, hc20, h⟩ := bd_some h
      refine cV_i (ci := 12) (q0 := 0) (rest := []) hF hW mw_X12_207 (c_X12_meets l K a hc20) ⟨Nat.le_of_ble_eq_true rfl, Nat.le_of_ble_eq_true rfl⟩ rfl rfl (pM_0 K a _) rfl hl.1 rfl (Nat.le_of_ble_eq_true rfl) dX12_back_20 ⟨Nat.le_of_ble_eq_true rfl, Nat.le_of_ble_eq_true rfl⟩ (fun _ H locs hW => ?_)
      obtain ⟨rfl, rfl⟩ := Prod.mk.inj (Option.some.inj h)
      exact rt_i hF hr hk rfl (fun _ => 0) hW rfl dX12_back_23
  · have h := ifn q4 h
    refine lv_iconst (v := (-1)) hx hb dX12_back_8 (by decide) ?_
    obtain ⟨rfl, rfl⟩ := Prod.mk.inj (Option.some.inj h)
    exact rt_i hF hr hk rfl (fun _ => 0) hW rfl dX12_back_9
set_option maxRecDepth 100000 in
set_option maxHeartbeats 1000000 in
theorem c_X12_shift (l : Launch) (K : Kx) (a : Nat → Nat) {M M0 : Mem} {x1 : Int32} {x2 : Int32} {x3 : Int32} {r0 : Int32} (h : f_X12_shift M x1 x2 x3 = some (r0, M0)) : CMi l yX12_shift cX12_shift 5 (some .int) ({ frames := 2, cells := 0, slots := 0, locals := 46 } : Room) K [.ref (a 0), .int x1, .int x2, .int x3] (wM K a M) (fun _ => wM K a M0) r0 := by
  refine cs_i (by decide +kernel) (Nat.le_of_ble_eq_true rfl) ?_
  intro p e s m args below meth c A ls hF hr hk hnm hW hl
  have hx := hF.1
  have hb := hF.2.1
  have hl : lv_has ls 5 [(0, .ref (a 0)), (1, .int x1), (2, .int x2), (3, .int x3)] := hl
  obtain ⟨H, hH⟩ : ∃ z, z = s.heap := ⟨_, rfl⟩
  rw [← hH] at hW ⊢
  unfold f_X12_shift at h
  refine lv_aload_n hx hb dX12_shift_0 rfl (lv_at hl 0 rfl) ?_
  refine lv_iload_n hx hb dX12_shift_1 rfl (lv_at hl 1 rfl) ?_
  obtain ⟨r1, hc3, h⟩ := bq_some h
  refine cV_i (ci := 12) (q0 := 0) (rest := []) hF hW mw_X12_177 (c_X12_isNode l K a hc3) ⟨Nat.le_of_ble_eq_true rfl, Nat.le_of_ble_eq_true rfl⟩ rfl rfl (pM_0 K a _) rfl hl.1 rfl (Nat.le_of_ble_eq_true rfl) dX12_shift_2 ⟨Nat.le_of_ble_eq_true rfl, Nat.le_of_ble_eq_true rfl⟩ (fun _ H locs hW => ?_)
  refine lz_eq (tgt := 34) hx hb dX12_shift_5 (by decide) (fun q4 => ?_) (fun q4 => ?_)
  · have h := ifn q4 h
    refine lv_iconst (v := (-1)) hx hb dX12_shift_34 (by decide) ?_
    obtain ⟨rfl, rfl⟩ := Prod.mk.inj (Option.some.inj h)
    exact rt_i hF hr hk rfl (fun _ => 0) hW rfl dX12_shift_35
  · have h := ifp q4 h
    refine lv_iload_n hx hb dX12_shift_8 rfl (lv_at hl 2 rfl) ?_
    refine lv_i2l hx hb dX12_shift_9 rfl ?_
    refine lv_lconst (v := 0) hx hb dX12_shift_10 (by decide) ?_
    refine lv_ldc2 hx hb hF.2.2.2.1 (hF.2.2.1 _ kl_X12_212) dX12_shift_11 ?_
    obtain ⟨r5, hc7, h⟩ := bq_some h
    refine cS_i (rest := []) hF hW mw_X12_154 (c_X12_in l K hc7) ⟨Nat.le_of_ble_eq_true rfl, Nat.le_of_ble_eq_true rfl⟩ rfl hl.1 rfl (Nat.le_of_ble_eq_true rfl) dX12_shift_14 ⟨Nat.le_of_ble_eq_true rfl, Nat.le_of_ble_eq_true rfl⟩ (fun _ H locs hW => ?_)
    refine lz_eq (tgt := 34) hx hb dX12_shift_17 (by decide) (fun q8 => ?_) (fun q8 => ?_)
    · have h := ifn q8 h
      refine lv_iconst (v := (-1)) hx hb dX12_shift_34 (by decide) ?_
      obtain ⟨rfl, rfl⟩ := Prod.mk.inj (Option.some.inj h)
      exact rt_i hF hr hk rfl (fun _ => 0) hW rfl dX12_shift_35
    · have h := ifp q8 h
      refine lv_iload_n hx hb dX12_shift_20 rfl (lv_at hl 3 rfl) ?_
      refine lv_i2l hx hb dX12_shift_21 rfl ?_
      refine lv_ldc2 hx hb hF.2.2.2.1 (hF.2.2.1 _ kl_X12_160) dX12_shift_22 ?_
      refine lv_ldc2 hx hb hF.2.2.2.1 (hF.2.2.1 _ kl_X12_162) dX12_shift_25 ?_
      obtain ⟨r9, hc11, h⟩ := bq_some h
      refine cS_i (rest := []) hF hW mw_X12_154 (c_X12_in l K hc11) ⟨Nat.le_of_ble_eq_true rfl, Nat.le_of_ble_eq_true rfl⟩ rfl hl.1 rfl (Nat.le_of_ble_eq_true rfl) dX12_shift_28 ⟨Nat.le_of_ble_eq_true rfl, Nat.le_of_ble_eq_true rfl⟩ (fun _ H locs hW => ?_)
      refine lz_ne (tgt := 36) hx hb dX12_shift_31 (by decide) (fun q12 => ?_) (fun q12 => ?_)
      · have h := ifp q12 h
        refine lv_aload_n hx hb dX12_shift_36 rfl (lv_at hl 0 rfl) ?_
        refine g_X12_26 hF hW dX12_shift_37 ?_
        refine lv_iload_n hx hb dX12_shift_40 rfl (lv_at hl 1 rfl) ?_
        obtain ⟨q13, h⟩ := ck_some h
        refine w_ild hF hW (pM_6 K a _) q13 dX12_shift_41 ?_
        refine lv_iconst (v := 3) hx hb dX12_shift_42 (by decide) ?_
        refine lv_icmp_eq (tgt := 52) hx hb dX12_shift_43 (by decide) (fun q14 => ?_) (fun q14 => ?_)
        · have h := ifp q14 h
          refine lv_aload_n hx hb dX12_shift_52 rfl (lv_at hl 0 rfl) ?_
          refine g_X12_32 hF hW dX12_shift_53 ?_
          refine lv_iload_n hx hb dX12_shift_56 rfl (lv_at hl 1 rfl) ?_
          obtain ⟨q15, h⟩ := ck_some h
          refine w_ild hF hW (pM_8 K a _) q15 dX12_shift_57 ?_
          refine lv_iload_n hx hb dX12_shift_58 rfl (lv_at hl 2 rfl) ?_
          refine lv_icmp_gt (tgt := 64) hx hb dX12_shift_59 (by decide) (fun q16 => ?_) (fun q16 => ?_)
          · have h := ifp q16 h
            refine lv_iload_n hx hb dX12_shift_64 rfl (lv_at hl 1 rfl) ?_
            refine lv_aload_n hx hb dX12_shift_65 rfl (lv_at hl 0 rfl) ?_
            refine lv_iload_n hx hb dX12_shift_66 rfl (lv_at hl 1 rfl) ?_
            refine lv_iload_n hx hb dX12_shift_67 rfl (lv_at hl 2 rfl) ?_
            obtain ⟨r17, hc19, h⟩ := bq_some h
            refine cV_i (ci := 12) (q0 := 0) (rest := [.int x1]) hF hW mw_X12_314 (c_X12_loopRow l K a hc19) ⟨Nat.le_of_ble_eq_true rfl, Nat.le_of_ble_eq_true rfl⟩ rfl rfl (pM_0 K a _) rfl hl.1 rfl (Nat.le_of_ble_eq_true rfl) dX12_shift_68 ⟨Nat.le_of_ble_eq_true rfl, Nat.le_of_ble_eq_true rfl⟩ (fun _ H locs hW => ?_)
            obtain ⟨r20, hc22, h⟩ := bq_some h
            refine cS_i (rest := []) hF hW mw_X12_295 (c_X12_rowAt l K hc22) ⟨Nat.le_of_ble_eq_true rfl, Nat.le_of_ble_eq_true rfl⟩ rfl hl.1 rfl (Nat.le_of_ble_eq_true rfl) dX12_shift_71 ⟨Nat.le_of_ble_eq_true rfl, Nat.le_of_ble_eq_true rfl⟩ (fun _ H locs hW => ?_)
            refine lv_istore (lv' := [(4, .int r20), (0, .ref (a 0)), (1, .int x1), (2, .int x2), (3, .int x3)]) hx hb dX12_shift_74 hl (by decide) rfl (fun ls hl => ?_)
            refine lv_aload_n hx hb dX12_shift_76 rfl (lv_at hl 1 rfl) ?_
            refine g_X12_102 hF hW dX12_shift_77 ?_
            refine lv_iload hx hb dX12_shift_80 (lv_at hl 0 rfl) ?_
            obtain ⟨q23, h⟩ := ck_some h
            refine w_ild hF hW (pM_31 K a _) q23 dX12_shift_82 ?_
            refine lv_iload_n hx hb dX12_shift_83 rfl (lv_at hl 4 rfl) ?_
            refine lv_iadd hx hb dX12_shift_84 ?_
            refine lv_i2l hx hb dX12_shift_85 rfl ?_
            refine lv_ldc2 hx hb hF.2.2.2.1 (hF.2.2.1 _ kl_X12_309) dX12_shift_86 ?_
            refine lv_ldc2 hx hb hF.2.2.2.1 (hF.2.2.1 _ kl_X12_280) dX12_shift_89 ?_
            obtain ⟨r24, hc26, h⟩ := bq_some h
            refine cS_i (rest := []) hF hW mw_X12_154 (c_X12_in l K hc26) ⟨Nat.le_of_ble_eq_true rfl, Nat.le_of_ble_eq_true rfl⟩ rfl hl.1 rfl (Nat.le_of_ble_eq_true rfl) dX12_shift_92 ⟨Nat.le_of_ble_eq_true rfl, Nat.le_of_ble_eq_true rfl⟩ (fun _ H locs hW => ?_)
            refine lz_ne (tgt := 101) hx hb dX12_shift_95 (by decide) (fun q27 => ?_) (fun q27 => ?_)
            · have h := ifp q27 h
              refine lv_aload_n hx hb dX12_shift_101 rfl (lv_at hl 1 rfl) ?_
              obtain ⟨M29, hc30, h⟩ := bm_some h
              refine cV_v (ci := 12) (q0 := 0) (rest := []) hF hW mw_X12_317 (c_X12_keepTried l K a hc30) ⟨Nat.le_of_ble_eq_true rfl, Nat.le_of_ble_eq_true rfl⟩ rfl rfl (pM_0 K a _) rfl hl.1 rfl (Nat.le_of_ble_eq_true rfl) dX12_shift_102 ⟨Nat.le_of_ble_eq_true rfl, Nat.le_of_ble_eq_true rfl⟩ (fun _ H locs hW => ?_)
              refine lv_aload_n hx hb dX12_shift_105 rfl (lv_at hl 1 rfl) ?_
              refine g_X12_102 hF hW dX12_shift_106 ?_
              refine lv_iload hx hb dX12_shift_109 (lv_at hl 0 rfl) ?_
              refine lv_dup2_11 hx hb dX12_shift_111 rfl rfl ?_
              obtain ⟨q31, h⟩ := ck_some h
              refine w_ild hF hW (pM_31 K a _) q31 dX12_shift_112 ?_
              refine lv_iload_n hx hb dX12_shift_113 rfl (lv_at hl 4 rfl) ?_
              refine lv_iadd hx hb dX12_shift_114 ?_
              obtain ⟨q32, h⟩ := ck_some h
              refine w_ist hF hW (pM_31 K a _) q32 (uM_31 K a _ _ _) dX12_shift_115 (fun H locs hW => ?_)
              refine lv_aload_n hx hb dX12_shift_116 rfl (lv_at hl 1 rfl) ?_
              obtain ⟨r33, M34, hc35, h⟩ := bd_some h
              refine cV_i (ci := 12) (q0 := 0) (rest := []) hF hW mw_X12_324 (c_X12_turned l K a hc35) ⟨Nat.le_of_ble_eq_true rfl, Nat.le_of_ble_eq_true rfl⟩ rfl rfl (pM_0 K a _) rfl hl.1 rfl (Nat.le_of_ble_eq_true rfl) dX12_shift_117 ⟨Nat.le_of_ble_eq_true rfl, Nat.le_of_ble_eq_true rfl⟩ (fun _ H locs hW => ?_)
              obtain ⟨rfl, rfl⟩ := Prod.mk.inj (Option.some.inj h)
              exact rt_i hF hr hk rfl (fun _ => 0) hW rfl dX12_shift_120
            · have h := ifn q27 h
              refine lv_bipush (v := (-6)) hx hb dX12_shift_98 (by decide) ?_
              obtain ⟨rfl, rfl⟩ := Prod.mk.inj (Option.some.inj h)
              exact rt_i hF hr hk rfl (fun _ => 0) hW rfl dX12_shift_100
          · have h := ifn q16 h
            refine lv_iconst (v := (-1)) hx hb dX12_shift_62 (by decide) ?_
            obtain ⟨rfl, rfl⟩ := Prod.mk.inj (Option.some.inj h)
            exact rt_i hF hr hk rfl (fun _ => 0) hW rfl dX12_shift_63
        · have h := ifn q14 h
          refine lv_aload_n hx hb dX12_shift_46 rfl (lv_at hl 0 rfl) ?_
          refine lv_iconst (v := 3) hx hb dX12_shift_47 (by decide) ?_
          obtain ⟨r36, M37, hc38, h⟩ := bd_some h
          refine cV_i (ci := 12) (q0 := 0) (rest := []) hF hW mw_X12_207 (c_X12_meets l K a hc38) ⟨Nat.le_of_ble_eq_true rfl, Nat.le_of_ble_eq_true rfl⟩ rfl rfl (pM_0 K a _) rfl hl.1 rfl (Nat.le_of_ble_eq_true rfl) dX12_shift_48 ⟨Nat.le_of_ble_eq_true rfl, Nat.le_of_ble_eq_true rfl⟩ (fun _ H locs hW => ?_)
          obtain ⟨rfl, rfl⟩ := Prod.mk.inj (Option.some.inj h)
          exact rt_i hF hr hk rfl (fun _ => 0) hW rfl dX12_shift_51
      · have h := ifn q12 h
        refine lv_iconst (v := (-1)) hx hb dX12_shift_34 (by decide) ?_
        obtain ⟨rfl, rfl⟩ := Prod.mk.inj (Option.some.inj h)
        exact rt_i hF hr hk rfl (fun _ => 0) hW rfl dX12_shift_35
set_option maxRecDepth 100000 in
set_option maxHeartbeats 1000000 in
theorem c_X12_tiles (l : Launch) (K : Kx) (a : Nat → Nat) {M M0 : Mem} {x1 : Int32} {x2 : Int32} {x3 : Int32} {x4 : Int32} {r0 : Bool} (h : f_X12_tiles M x1 x2 x3 x4 = some (r0, M0)) : CMi l yX12_tiles cX12_tiles 9 (some .boolean) ({ frames := 2, cells := 0, slots := 0, locals := 44 } : Room) K [.ref (a 0), .int x1, .int x2, .int x3, .int x4] (wM K a M) (fun _ => wM K a M0) (bI r0) := by
  refine cs_i (by decide +kernel) (Nat.le_of_ble_eq_true rfl) ?_
  intro p e s m args below meth c A ls hF hr hk hnm hW hl
  have hx := hF.1
  have hb := hF.2.1
  have hl : lv_has ls 9 [(0, .ref (a 0)), (1, .int x1), (2, .int x2), (3, .int x3), (4, .int x4)] := hl
  obtain ⟨H, hH⟩ : ∃ z, z = s.heap := ⟨_, rfl⟩
  rw [← hH] at hW ⊢
  have J33 : ∀ (n33 : Nat) (x1 : Int32) (x2 : Int32) (x3 : Int32) (x4 : Int32) (x5 : Int32) (x6 : Int32) (M : Mem) (H : Heap) (locs : List Loc) (ls : Array Slot), f_X12_tiles_33 n33 x1 x2 x3 x4 x5 x6 M = some (r0, M0) → Wd K A s (wM K a M) H locs → lv_has ls 9 [(0, .ref (a 0)), (1, .int x1), (2, .int x2), (3, .int x3), (4, .int x4), (5, .int x5), (6, .int x6)] → W p l e ({ frames := 2, cells := 0, slots := 0, locals := 44 } : Room) s m args below meth c H locs 0 0 (EndI K A (fun _ => wM K a M0) (bI r0) below args s ({ frames := 2, cells := 0, slots := 0, locals := 44 } : Room)) (F0 m 33 ls []) := by
    intro n33
    induction n33 with
    | zero => intro x1 x2 x3 x4 x5 x6 M H locs ls h; exact absurd h (by simp [f_X12_tiles_33])
    | succ n33 ih33 =>
      have J43 : ∀ (n43 : Nat) (x1 : Int32) (x2 : Int32) (x3 : Int32) (x4 : Int32) (x5 : Int32) (x6 : Int32) (x7 : Int32) (M : Mem) (H : Heap) (locs : List Loc) (ls : Array Slot), f_X12_tiles_43 (f_X12_tiles_33 n33) n43 x1 x2 x3 x4 x5 x6 x7 M = some (r0, M0) → Wd K A s (wM K a M) H locs → lv_has ls 9 [(0, .ref (a 0)), (1, .int x1), (2, .int x2), (3, .int x3), (4, .int x4), (5, .int x5), (6, .int x6), (7, .int x7)] → W p l e ({ frames := 2, cells := 0, slots := 0, locals := 44 } : Room) s m args below meth c H locs 0 0 (EndI K A (fun _ => wM K a M0) (bI r0) below args s ({ frames := 2, cells := 0, slots := 0, locals := 44 } : Room)) (F0 m 43 ls []) := by
        intro n43
        induction n43 with
        | zero => intro x1 x2 x3 x4 x5 x6 x7 M H locs ls h; exact absurd h (by simp [f_X12_tiles_43])
        | succ n43 ih43 =>
          intro x1 x2 x3 x4 x5 x6 x7 M H locs ls h hW hl
          rw [f_X12_tiles_43] at h
          refine lv_iload hx hb dX12_tiles_43 (lv_at hl 7 rfl) ?_
          refine lv_bipush (v := 7) hx hb dX12_tiles_45 (by decide) ?_
          refine lv_icmp_ge (tgt := 86) hx hb dX12_tiles_47 (by decide) (fun q10 => ?_) (fun q10 => ?_)
          · have h := ifp q10 h
            refine lv_iinc (v := (x6 + (-1))) (lv' := [(6, .int (x6 + (-1))), (0, .ref (a 0)), (1, .int x1), (2, .int x2), (3, .int x3), (4, .int x4), (5, .int x5), (7, .int x7)]) hx hb dX12_tiles_86 hl (k := 6) rfl rfl (by decide) rfl (fun ls hl => ?_)
            refine lv_goto (tgt := 33) hx hb dX12_tiles_89 (by decide) ?_
            exact ih33 x1 x2 x3 x4 x5 (x6 + (-1)) _ _ _ _ h hW (lv_sub hl [1, 2, 3, 4, 5, 6, 0] rfl)
          · have h := ifn q10 h
            refine lv_aload_n hx hb dX12_tiles_50 rfl (lv_at hl 0 rfl) ?_
            refine g_X12_102 hF hW dX12_tiles_51 ?_
            refine lv_iload_n hx hb dX12_tiles_54 rfl (lv_at hl 1 rfl) ?_
            refine lv_iload hx hb dX12_tiles_55 (lv_at hl 6 rfl) ?_
            refine lv_iload_n hx hb dX12_tiles_57 rfl (lv_at hl 3 rfl) ?_
            refine lv_iadd hx hb dX12_tiles_58 ?_
            obtain ⟨r11, hc13, h⟩ := bq_some h
            refine cS_i (rest := [.ref (a 31)]) hF hW mw_X12_295 (c_X12_rowAt l K hc13) ⟨Nat.le_of_ble_eq_true rfl, Nat.le_of_ble_eq_true rfl⟩ rfl hl.1 rfl (Nat.le_of_ble_eq_true rfl) dX12_tiles_59 ⟨Nat.le_of_ble_eq_true rfl, Nat.le_of_ble_eq_true rfl⟩ (fun _ H locs hW => ?_)
            refine lv_iload hx hb dX12_tiles_62 (lv_at hl 7 rfl) ?_
            refine lv_iadd hx hb dX12_tiles_64 ?_
            refine lv_aload_n hx hb dX12_tiles_65 rfl (lv_at hl 0 rfl) ?_
            refine g_X12_102 hF hW dX12_tiles_66 ?_
            refine lv_iload_n hx hb dX12_tiles_69 rfl (lv_at hl 1 rfl) ?_
            refine lv_iload hx hb dX12_tiles_70 (lv_at hl 6 rfl) ?_
            obtain ⟨r14, hc16, h⟩ := bq_some h
            refine cS_i (rest := [.ref (a 31), .int (r11 + x7), .ref (a 31)]) hF hW mw_X12_295 (c_X12_rowAt l K hc16) ⟨Nat.le_of_ble_eq_true rfl, Nat.le_of_ble_eq_true rfl⟩ rfl hl.1 rfl (Nat.le_of_ble_eq_true rfl) dX12_tiles_72 ⟨Nat.le_of_ble_eq_true rfl, Nat.le_of_ble_eq_true rfl⟩ (fun _ H locs hW => ?_)
            refine lv_iload hx hb dX12_tiles_75 (lv_at hl 7 rfl) ?_
            refine lv_iadd hx hb dX12_tiles_77 ?_
            obtain ⟨q17, h⟩ := ck_some h
            refine w_ild hF hW (pM_31 K a _) q17 dX12_tiles_78 ?_
            obtain ⟨q18, h⟩ := ck_some h
            refine w_ist hF hW (pM_31 K a _) q18 (uM_31 K a _ _ _) dX12_tiles_79 (fun H locs hW => ?_)
            refine lv_iinc (v := (x7 + 1)) (lv' := [(7, .int (x7 + 1)), (0, .ref (a 0)), (1, .int x1), (2, .int x2), (3, .int x3), (4, .int x4), (5, .int x5), (6, .int x6)]) hx hb dX12_tiles_80 hl (k := 7) rfl rfl (by decide) rfl (fun ls hl => ?_)
            refine lv_goto (tgt := 43) hx hb dX12_tiles_83 (by decide) ?_
            exact ih43 x1 x2 x3 x4 x5 x6 (x7 + 1) _ _ _ _ h hW (lv_sub hl [1, 2, 3, 4, 5, 6, 7, 0] rfl)
      have J105 : ∀ (n105 : Nat) (x1 : Int32) (x2 : Int32) (x3 : Int32) (x4 : Int32) (x5 : Int32) (x6 : Int32) (M : Mem) (H : Heap) (locs : List Loc) (ls : Array Slot), f_X12_tiles_105 n105 x1 x2 x3 x4 x5 x6 M = some (r0, M0) → Wd K A s (wM K a M) H locs → lv_has ls 9 [(0, .ref (a 0)), (1, .int x1), (2, .int x2), (3, .int x3), (4, .int x4), (5, .int x5), (6, .int x6)] → W p l e ({ frames := 2, cells := 0, slots := 0, locals := 44 } : Room) s m args below meth c H locs 0 0 (EndI K A (fun _ => wM K a M0) (bI r0) below args s ({ frames := 2, cells := 0, slots := 0, locals := 44 } : Room)) (F0 m 105 ls []) := by
        intro n105
        induction n105 with
        | zero => intro x1 x2 x3 x4 x5 x6 M H locs ls h; exact absurd h (by simp [f_X12_tiles_105])
        | succ n105 ih105 =>
          have J139 : ∀ (n139 : Nat) (x1 : Int32) (x2 : Int32) (x3 : Int32) (x4 : Int32) (x5 : Int32) (x6 : Int32) (M : Mem) (H : Heap) (locs : List Loc) (ls : Array Slot), f_X12_tiles_139 n139 x1 x2 x3 x4 x5 x6 M = some (r0, M0) → Wd K A s (wM K a M) H locs → lv_has ls 9 [(0, .ref (a 0)), (1, .int x1), (2, .int x2), (3, .int x3), (4, .int x4), (5, .int x5), (6, .int x6)] → W p l e ({ frames := 2, cells := 0, slots := 0, locals := 44 } : Room) s m args below meth c H locs 0 0 (EndI K A (fun _ => wM K a M0) (bI r0) below args s ({ frames := 2, cells := 0, slots := 0, locals := 44 } : Room)) (F0 m 139 ls []) := by
            intro n139
            induction n139 with
            | zero => intro x1 x2 x3 x4 x5 x6 M H locs ls h; exact absurd h (by simp [f_X12_tiles_139])
            | succ n139 ih139 =>
              have J163 : ∀ (n163 : Nat) (x1 : Int32) (x2 : Int32) (x3 : Int32) (x4 : Int32) (x5 : Int32) (x6 : Int32) (x7 : Int32) (x8 : Int32) (M : Mem) (H : Heap) (locs : List Loc) (ls : Array Slot), f_X12_tiles_163 (f_X12_tiles_139 n139) n163 x1 x2 x3 x4 x5 x6 x7 x8 M = some (r0, M0) → Wd K A s (wM K a M) H locs → lv_has ls 9 [(0, .ref (a 0)), (1, .int x1), (2, .int x2), (3, .int x3), (4, .int x4), (5, .int x5), (6, .int x6), (7, .int x7), (8, .int x8)] → W p l e ({ frames := 2, cells := 0, slots := 0, locals := 44 } : Room) s m args below meth c H locs 0 0 (EndI K A (fun _ => wM K a M0) (bI r0) below args s ({ frames := 2, cells := 0, slots := 0, locals := 44 } : Room)) (F0 m 163 ls []) := by
                intro n163
                induction n163 with
                | zero => intro x1 x2 x3 x4 x5 x6 x7 x8 M H locs ls h; exact absurd h (by simp [f_X12_tiles_163])
                | succ n163 ih163 =>
                  intro x1 x2 x3 x4 x5 x6 x7 x8 M H locs ls h hW hl
                  rw [f_X12_tiles_163] at h
                  refine lv_iload hx hb dX12_tiles_163 (lv_at hl 8 rfl) ?_
                  refine lv_bipush (v := 6) hx hb dX12_tiles_165 (by decide) ?_
                  refine lv_icmp_ge (tgt := 216) hx hb dX12_tiles_167 (by decide) (fun q31 => ?_) (fun q31 => ?_)
                  · have h := ifp q31 h
                    refine lv_aload_n hx hb dX12_tiles_216 rfl (lv_at hl 0 rfl) ?_
                    refine g_X12_102 hF hW dX12_tiles_217 ?_
                    refine lv_iload_n hx hb dX12_tiles_220 rfl (lv_at hl 1 rfl) ?_
                    refine lv_iload hx hb dX12_tiles_221 (lv_at hl 5 rfl) ?_
                    refine lv_iload hx hb dX12_tiles_223 (lv_at hl 6 rfl) ?_
                    refine lv_iadd hx hb dX12_tiles_225 ?_
                    obtain ⟨r32, hc34, h⟩ := bq_some h
                    refine cS_i (rest := [.ref (a 31)]) hF hW mw_X12_295 (c_X12_rowAt l K hc34) ⟨Nat.le_of_ble_eq_true rfl, Nat.le_of_ble_eq_true rfl⟩ rfl hl.1 rfl (Nat.le_of_ble_eq_true rfl) dX12_tiles_226 ⟨Nat.le_of_ble_eq_true rfl, Nat.le_of_ble_eq_true rfl⟩ (fun _ H locs hW => ?_)
                    refine lv_iconst (v := 5) hx hb dX12_tiles_229 (by decide) ?_
                    refine lv_iadd hx hb dX12_tiles_230 ?_
                    obtain ⟨q35, h⟩ := ck_some h
                    refine w_ild hF hW (pM_31 K a _) q35 dX12_tiles_231 ?_
                    refine lv_sipush (v := 400) hx hb dX12_tiles_232 (by decide) ?_
                    refine lv_icmp_le (tgt := 240) hx hb dX12_tiles_235 (by decide) (fun q36 => ?_) (fun q36 => ?_)
                    · have h := ifp q36 h
                      refine lv_iinc (v := (x6 + 1)) (lv' := [(6, .int (x6 + 1)), (0, .ref (a 0)), (1, .int x1), (2, .int x2), (3, .int x3), (4, .int x4), (5, .int x5), (7, .int x7), (8, .int x8)]) hx hb dX12_tiles_240 hl (k := 6) rfl rfl (by decide) rfl (fun ls hl => ?_)
                      refine lv_goto (tgt := 139) hx hb dX12_tiles_243 (by decide) ?_
                      exact ih139 x1 x2 x3 x4 x5 (x6 + 1) _ _ _ _ h hW (lv_sub hl [1, 2, 3, 4, 5, 6, 0] rfl)
                    · have h := ifn q36 h
                      refine lv_iconst (v := 0) hx hb dX12_tiles_238 (by decide) ?_
                      obtain ⟨rfl, rfl⟩ := Prod.mk.inj (Option.some.inj h)
                      exact rt_i hF hr hk (bI_n false) (fun _ => 0) hW rfl dX12_tiles_239
                  · have h := ifn q31 h
                    refine lv_aload_n hx hb dX12_tiles_170 rfl (lv_at hl 0 rfl) ?_
                    refine g_X12_102 hF hW dX12_tiles_171 ?_
                    refine lv_iload_n hx hb dX12_tiles_174 rfl (lv_at hl 1 rfl) ?_
                    refine lv_iload hx hb dX12_tiles_175 (lv_at hl 5 rfl) ?_
                    refine lv_iload hx hb dX12_tiles_177 (lv_at hl 6 rfl) ?_
                    refine lv_iadd hx hb dX12_tiles_179 ?_
                    obtain ⟨r37, hc39, h⟩ := bq_some h
                    refine cS_i (rest := [.ref (a 31)]) hF hW mw_X12_295 (c_X12_rowAt l K hc39) ⟨Nat.le_of_ble_eq_true rfl, Nat.le_of_ble_eq_true rfl⟩ rfl hl.1 rfl (Nat.le_of_ble_eq_true rfl) dX12_tiles_180 ⟨Nat.le_of_ble_eq_true rfl, Nat.le_of_ble_eq_true rfl⟩ (fun _ H locs hW => ?_)
                    refine lv_iload hx hb dX12_tiles_183 (lv_at hl 8 rfl) ?_
                    refine lv_iadd hx hb dX12_tiles_185 ?_
                    refine lv_aload_n hx hb dX12_tiles_186 rfl (lv_at hl 0 rfl) ?_
                    refine g_X12_102 hF hW dX12_tiles_187 ?_
                    refine lv_iload hx hb dX12_tiles_190 (lv_at hl 7 rfl) ?_
                    refine lv_iload hx hb dX12_tiles_192 (lv_at hl 8 rfl) ?_
                    refine lv_iadd hx hb dX12_tiles_194 ?_
                    obtain ⟨q40, h⟩ := ck_some h
                    refine w_ild hF hW (pM_31 K a _) q40 dX12_tiles_195 ?_
                    refine lv_iload hx hb dX12_tiles_196 (lv_at hl 8 rfl) ?_
                    refine lv_iconst (v := 5) hx hb dX12_tiles_198 (by decide) ?_
                    refine lv_icmp_ne (tgt := 207) hx hb dX12_tiles_199 (by decide) (fun q41 => ?_) (fun q41 => ?_)
                    · have h := ifn q41 h
                      refine lv_iconst (v := 1) hx hb dX12_tiles_207 (by decide) ?_
                      refine lv_imul hx hb dX12_tiles_208 ?_
                      obtain ⟨q42, h⟩ := ck_some h
                      refine w_ist hF hW (pM_31 K a _) q42 (uM_31 K a _ _ _) dX12_tiles_209 (fun H locs hW => ?_)
                      refine lv_iinc (v := (x8 + 1)) (lv' := [(8, .int (x8 + 1)), (0, .ref (a 0)), (1, .int x1), (2, .int x2), (3, .int x3), (4, .int x4), (5, .int x5), (6, .int x6), (7, .int x7)]) hx hb dX12_tiles_210 hl (k := 8) rfl rfl (by decide) rfl (fun ls hl => ?_)
                      refine lv_goto (tgt := 163) hx hb dX12_tiles_213 (by decide) ?_
                      exact ih163 x1 x2 x3 x4 x5 x6 x7 (x8 + 1) _ _ _ _ h hW (lv_sub hl [1, 2, 3, 4, 5, 6, 7, 8, 0] rfl)
                    · have h := ifp q41 h
                      refine lv_iload hx hb dX12_tiles_202 (lv_at hl 4 rfl) ?_
                      refine lv_goto (tgt := 208) hx hb dX12_tiles_204 (by decide) ?_
                      refine lv_imul hx hb dX12_tiles_208 ?_
                      obtain ⟨q43, h⟩ := ck_some h
                      refine w_ist hF hW (pM_31 K a _) q43 (uM_31 K a _ _ _) dX12_tiles_209 (fun H locs hW => ?_)
                      refine lv_iinc (v := (x8 + 1)) (lv' := [(8, .int (x8 + 1)), (0, .ref (a 0)), (1, .int x1), (2, .int x2), (3, .int x3), (4, .int x4), (5, .int x5), (6, .int x6), (7, .int x7)]) hx hb dX12_tiles_210 hl (k := 8) rfl rfl (by decide) rfl (fun ls hl => ?_)
                      refine lv_goto (tgt := 163) hx hb dX12_tiles_213 (by decide) ?_
                      exact ih163 x1 x2 x3 x4 x5 x6 x7 (x8 + 1) _ _ _ _ h hW (lv_sub hl [1, 2, 3, 4, 5, 6, 7, 8, 0] rfl)
              intro x1 x2 x3 x4 x5 x6 M H locs ls h hW hl
              rw [f_X12_tiles_139] at h
              refine lv_iload hx hb dX12_tiles_139 (lv_at hl 6 rfl) ?_
              refine lv_iload_n hx hb dX12_tiles_141 rfl (lv_at hl 3 rfl) ?_
              refine lv_icmp_ge (tgt := 246) hx hb dX12_tiles_142 (by decide) (fun q24 => ?_) (fun q24 => ?_)
              · have h := ifp q24 h
                refine lv_iconst (v := 1) hx hb dX12_tiles_246 (by decide) ?_
                obtain ⟨rfl, rfl⟩ := Prod.mk.inj (Option.some.inj h)
                exact rt_i hF hr hk (bI_n true) (fun _ => 0) hW rfl dX12_tiles_247
              · have h := ifn q24 h
                refine lv_iload_n hx hb dX12_tiles_145 rfl (lv_at hl 1 rfl) ?_
                refine lv_aload_n hx hb dX12_tiles_146 rfl (lv_at hl 0 rfl) ?_
                refine lv_iload_n hx hb dX12_tiles_147 rfl (lv_at hl 1 rfl) ?_
                refine lv_iload_n hx hb dX12_tiles_148 rfl (lv_at hl 2 rfl) ?_
                refine lv_iload hx hb dX12_tiles_149 (lv_at hl 6 rfl) ?_
                refine lv_iadd hx hb dX12_tiles_151 ?_
                obtain ⟨r25, hc27, h⟩ := bq_some h
                refine cV_i (ci := 12) (q0 := 0) (rest := [.int x1]) hF hW mw_X12_314 (c_X12_loopRow l K a hc27) ⟨Nat.le_of_ble_eq_true rfl, Nat.le_of_ble_eq_true rfl⟩ rfl rfl (pM_0 K a _) rfl hl.1 rfl (Nat.le_of_ble_eq_true rfl) dX12_tiles_152 ⟨Nat.le_of_ble_eq_true rfl, Nat.le_of_ble_eq_true rfl⟩ (fun _ H locs hW => ?_)
                obtain ⟨r28, hc30, h⟩ := bq_some h
                refine cS_i (rest := []) hF hW mw_X12_295 (c_X12_rowAt l K hc30) ⟨Nat.le_of_ble_eq_true rfl, Nat.le_of_ble_eq_true rfl⟩ rfl hl.1 rfl (Nat.le_of_ble_eq_true rfl) dX12_tiles_155 ⟨Nat.le_of_ble_eq_true rfl, Nat.le_of_ble_eq_true rfl⟩ (fun _ H locs hW => ?_)
                refine lv_istore (lv' := [(7, .int r28), (0, .ref (a 0)), (1, .int x1), (2, .int x2), (3, .int x3), (4, .int x4), (5, .int x5), (6, .int x6)]) hx hb dX12_tiles_158 hl (by decide) rfl (fun ls hl => ?_)
                refine lv_iconst (v := 0) hx hb dX12_tiles_160 (by decide) ?_
                refine lv_istore (lv' := [(8, .int 0), (7, .int r28), (0, .ref (a 0)), (1, .int x1), (2, .int x2), (3, .int x3), (4, .int x4), (5, .int x5), (6, .int x6)]) hx hb dX12_tiles_161 hl (by decide) rfl (fun ls hl => ?_)
                exact J163 100000 x1 x2 x3 x4 x5 x6 r28 0 _ _ _ _ h hW (lv_sub hl [2, 3, 4, 5, 6, 7, 8, 1, 0] rfl)
          intro x1 x2 x3 x4 x5 x6 M H locs ls h hW hl
          rw [f_X12_tiles_105] at h
          refine lv_iload hx hb dX12_tiles_105 (lv_at hl 6 rfl) ?_
          refine lv_iload_n hx hb dX12_tiles_107 rfl (lv_at hl 3 rfl) ?_
          refine lv_icmp_ge (tgt := 136) hx hb dX12_tiles_108 (by decide) (fun q19 => ?_) (fun q19 => ?_)
          · have h := ifp q19 h
            refine lv_iconst (v := 0) hx hb dX12_tiles_136 (by decide) ?_
            refine lv_istore (lv' := [(6, .int 0), (0, .ref (a 0)), (1, .int x1), (2, .int x2), (3, .int x3), (4, .int x4), (5, .int x5)]) hx hb dX12_tiles_137 hl (by decide) rfl (fun ls hl => ?_)
            exact J139 100000 x1 x2 x3 x4 x5 0 _ _ _ _ h hW (lv_sub hl [1, 2, 3, 4, 5, 6, 0] rfl)
          · have h := ifn q19 h
            refine lv_aload_n hx hb dX12_tiles_111 rfl (lv_at hl 0 rfl) ?_
            refine g_X12_102 hF hW dX12_tiles_112 ?_
            refine lv_iload_n hx hb dX12_tiles_115 rfl (lv_at hl 1 rfl) ?_
            refine lv_iload hx hb dX12_tiles_116 (lv_at hl 5 rfl) ?_
            refine lv_iload hx hb dX12_tiles_118 (lv_at hl 6 rfl) ?_
            refine lv_iadd hx hb dX12_tiles_120 ?_
            obtain ⟨r20, hc22, h⟩ := bq_some h
            refine cS_i (rest := [.ref (a 31)]) hF hW mw_X12_295 (c_X12_rowAt l K hc22) ⟨Nat.le_of_ble_eq_true rfl, Nat.le_of_ble_eq_true rfl⟩ rfl hl.1 rfl (Nat.le_of_ble_eq_true rfl) dX12_tiles_121 ⟨Nat.le_of_ble_eq_true rfl, Nat.le_of_ble_eq_true rfl⟩ (fun _ H locs hW => ?_)
            refine lv_bipush (v := 6) hx hb dX12_tiles_124 (by decide) ?_
            refine lv_iadd hx hb dX12_tiles_126 ?_
            refine lv_bipush (v := (-9)) hx hb dX12_tiles_127 (by decide) ?_
            obtain ⟨q23, h⟩ := ck_some h
            refine w_ist hF hW (pM_31 K a _) q23 (uM_31 K a _ _ _) dX12_tiles_129 (fun H locs hW => ?_)
            refine lv_iinc (v := (x6 + 1)) (lv' := [(6, .int (x6 + 1)), (0, .ref (a 0)), (1, .int x1), (2, .int x2), (3, .int x3), (4, .int x4), (5, .int x5)]) hx hb dX12_tiles_130 hl (k := 6) rfl rfl (by decide) rfl (fun ls hl => ?_)
            refine lv_goto (tgt := 105) hx hb dX12_tiles_133 (by decide) ?_
            exact ih105 x1 x2 x3 x4 x5 (x6 + 1) _ _ _ _ h hW (lv_sub hl [1, 2, 3, 4, 5, 6, 0] rfl)
      intro x1 x2 x3 x4 x5 x6 M H locs ls h hW hl
      rw [f_X12_tiles_33] at h
      refine lv_iload hx hb dX12_tiles_33 (lv_at hl 6 rfl) ?_
      refine lv_iload hx hb dX12_tiles_35 (lv_at hl 5 rfl) ?_
      refine lv_icmp_lt (tgt := 92) hx hb dX12_tiles_37 (by decide) (fun q7 => ?_) (fun q7 => ?_)
      · have h := ifp q7 h
        refine lv_aload_n hx hb dX12_tiles_92 rfl (lv_at hl 0 rfl) ?_
        refine g_X12_99 hF hW dX12_tiles_93 ?_
        refine lv_iload_n hx hb dX12_tiles_96 rfl (lv_at hl 1 rfl) ?_
        refine lv_dup2_11 hx hb dX12_tiles_97 rfl rfl ?_
        obtain ⟨q8, h⟩ := ck_some h
        refine w_ild hF hW (pM_30 K a _) q8 dX12_tiles_98 ?_
        refine lv_iload_n hx hb dX12_tiles_99 rfl (lv_at hl 3 rfl) ?_
        refine lv_iadd hx hb dX12_tiles_100 ?_
        obtain ⟨q9, h⟩ := ck_some h
        refine w_ist hF hW (pM_30 K a _) q9 (uM_30 K a _ _ _) dX12_tiles_101 (fun H locs hW => ?_)
        refine lv_iconst (v := 0) hx hb dX12_tiles_102 (by decide) ?_
        refine lv_istore (lv' := [(6, .int 0), (0, .ref (a 0)), (1, .int x1), (2, .int x2), (3, .int x3), (4, .int x4), (5, .int x5)]) hx hb dX12_tiles_103 hl (by decide) rfl (fun ls hl => ?_)
        exact J105 100000 x1 x2 x3 x4 x5 0 _ _ _ _ h hW (lv_sub hl [1, 2, 3, 4, 5, 6, 0] rfl)
      · have h := ifn q7 h
        refine lv_iconst (v := 0) hx hb dX12_tiles_40 (by decide) ?_
        refine lv_istore (lv' := [(7, .int 0), (0, .ref (a 0)), (1, .int x1), (2, .int x2), (3, .int x3), (4, .int x4), (5, .int x5), (6, .int x6)]) hx hb dX12_tiles_41 hl (by decide) rfl (fun ls hl => ?_)
        exact J43 100000 x1 x2 x3 x4 x5 x6 0 _ _ _ _ h hW (lv_sub hl [1, 2, 3, 4, 5, 6, 7, 0] rfl)
  unfold f_X12_tiles at h
  refine lv_aload_n hx hb dX12_tiles_0 rfl (lv_at hl 0 rfl) ?_
  refine g_X12_99 hF hW dX12_tiles_1 ?_
  refine lv_iload_n hx hb dX12_tiles_4 rfl (lv_at hl 1 rfl) ?_
  obtain ⟨q1, h⟩ := ck_some h
  refine w_ild hF hW (pM_30 K a _) q1 dX12_tiles_5 ?_
  refine lv_iload_n hx hb dX12_tiles_6 rfl (lv_at hl 3 rfl) ?_
  refine lv_iadd hx hb dX12_tiles_7 ?_
  refine lv_bipush (v := 16) hx hb dX12_tiles_8 (by decide) ?_
  refine lv_icmp_le (tgt := 15) hx hb dX12_tiles_10 (by decide) (fun q2 => ?_) (fun q2 => ?_)
  · have h := ifp q2 h
    refine lv_aload_n hx hb dX12_tiles_15 rfl (lv_at hl 0 rfl) ?_
    refine lv_iload_n hx hb dX12_tiles_16 rfl (lv_at hl 1 rfl) ?_
    refine lv_iload_n hx hb dX12_tiles_17 rfl (lv_at hl 2 rfl) ?_
    obtain ⟨r3, hc5, h⟩ := bq_some h
    refine cV_i (ci := 12) (q0 := 0) (rest := []) hF hW mw_X12_314 (c_X12_loopRow l K a hc5) ⟨Nat.le_of_ble_eq_true rfl, Nat.le_of_ble_eq_true rfl⟩ rfl rfl (pM_0 K a _) rfl hl.1 rfl (Nat.le_of_ble_eq_true rfl) dX12_tiles_18 ⟨Nat.le_of_ble_eq_true rfl, Nat.le_of_ble_eq_true rfl⟩ (fun _ H locs hW => ?_)
    refine lv_istore (lv' := [(5, .int r3), (0, .ref (a 0)), (1, .int x1), (2, .int x2), (3, .int x3), (4, .int x4)]) hx hb dX12_tiles_21 hl (by decide) rfl (fun ls hl => ?_)
    refine lv_aload_n hx hb dX12_tiles_23 rfl (lv_at hl 1 rfl) ?_
    refine g_X12_99 hF hW dX12_tiles_24 ?_
    refine lv_iload_n hx hb dX12_tiles_27 rfl (lv_at hl 2 rfl) ?_
    obtain ⟨q6, h⟩ := ck_some h
    refine w_ild hF hW (pM_30 K a _) q6 dX12_tiles_28 ?_
    refine lv_iconst (v := 1) hx hb dX12_tiles_29 (by decide) ?_
    refine lv_isub hx hb dX12_tiles_30 ?_
    refine lv_istore (lv' := [(6, .int ((M.1 30 x1.toNatClampNeg) - 1)), (5, .int r3), (0, .ref (a 0)), (1, .int x1), (2, .int x2), (3, .int x3), (4, .int x4)]) hx hb dX12_tiles_31 hl (by decide) rfl (fun ls hl => ?_)
    exact J33 100000 x1 x2 x3 x4 r3 ((M.1 30 x1.toNatClampNeg) - 1) _ _ _ _ h hW (lv_sub hl [2, 3, 4, 5, 6, 1, 0] rfl)
  · have h := ifn q2 h
    refine lv_iconst (v := 0) hx hb dX12_tiles_13 (by decide) ?_
    obtain ⟨rfl, rfl⟩ := Prod.mk.inj (Option.some.inj h)
    exact rt_i hF hr hk (bI_n false) (fun _ => 0) hW rfl dX12_tiles_14
set_option maxRecDepth 100000 in
set_option maxHeartbeats 1000000 in
theorem c_X12_tile (l : Launch) (K : Kx) (a : Nat → Nat) {M M0 : Mem} {x1 : Int32} {x2 : Int32} {x3 : Int32} {r0 : Int32} (h : f_X12_tile M x1 x2 x3 = some (r0, M0)) : CMi l yX12_tile cX12_tile 6 (some .int) ({ frames := 3, cells := 0, slots := 0, locals := 72 } : Room) K [.ref (a 0), .int x1, .int x2, .int x3] (wM K a M) (fun _ => wM K a M0) r0 := by
  refine cs_i (by decide +kernel) (Nat.le_of_ble_eq_true rfl) ?_
  intro p e s m args below meth c A ls hF hr hk hnm hW hl
  have hx := hF.1
  have hb := hF.2.1
  have hl : lv_has ls 6 [(0, .ref (a 0)), (1, .int x1), (2, .int x2), (3, .int x3)] := hl
  obtain ⟨H, hH⟩ : ∃ z, z = s.heap := ⟨_, rfl⟩
  rw [← hH] at hW ⊢
  have J65 : ∀ (n65 : Nat) (x1 : Int32) (x2 : Int32) (x3 : Int32) (x4 : Int32) (x5 : Int32) (M : Mem) (H : Heap) (locs : List Loc) (ls : Array Slot), f_X12_tile_65 n65 x1 x2 x3 x4 x5 M = some (r0, M0) → Wd K A s (wM K a M) H locs → lv_has ls 6 [(0, .ref (a 0)), (1, .int x1), (2, .int x2), (3, .int x3), (4, .int x4), (5, .int x5)] → W p l e ({ frames := 3, cells := 0, slots := 0, locals := 72 } : Room) s m args below meth c H locs 0 0 (EndI K A (fun _ => wM K a M0) r0 below args s ({ frames := 3, cells := 0, slots := 0, locals := 72 } : Room)) (F0 m 65 ls []) := by
    intro n65
    induction n65 with
    | zero => intro x1 x2 x3 x4 x5 M H locs ls h; exact absurd h (by simp [f_X12_tile_65])
    | succ n65 ih65 =>
      intro x1 x2 x3 x4 x5 M H locs ls h hW hl
      rw [f_X12_tile_65] at h
      refine lv_iload hx hb dX12_tile_65 (lv_at hl 5 rfl) ?_
      refine lv_aload_n hx hb dX12_tile_67 rfl (lv_at hl 0 rfl) ?_
      refine g_X12_170 hF hW dX12_tile_68 ?_
      refine lv_icmp_ge (tgt := 124) hx hb dX12_tile_71 (by decide) (fun q24 => ?_) (fun q24 => ?_)
      · have h := ifp q24 h
        refine lv_aload_n hx hb dX12_tile_124 rfl (lv_at hl 0 rfl) ?_
        obtain ⟨r25, M26, hc27, h⟩ := bd_some h
        refine cV_i (ci := 12) (q0 := 0) (rest := []) hF hW mw_X12_324 (c_X12_turned l K a hc27) ⟨Nat.le_of_ble_eq_true rfl, Nat.le_of_ble_eq_true rfl⟩ rfl rfl (pM_0 K a _) rfl hl.1 rfl (Nat.le_of_ble_eq_true rfl) dX12_tile_125 ⟨Nat.le_of_ble_eq_true rfl, Nat.le_of_ble_eq_true rfl⟩ (fun _ H locs hW => ?_)
        obtain ⟨rfl, rfl⟩ := Prod.mk.inj (Option.some.inj h)
        exact rt_i hF hr hk rfl (fun _ => 0) hW rfl dX12_tile_128
      · have h := ifn q24 h
        refine lv_aload_n hx hb dX12_tile_74 rfl (lv_at hl 0 rfl) ?_
        refine lv_iload hx hb dX12_tile_75 (lv_at hl 5 rfl) ?_
        refine lv_iload_n hx hb dX12_tile_77 rfl (lv_at hl 1 rfl) ?_
        obtain ⟨r28, hc30, h⟩ := bq_some h
        refine cV_i (ci := 12) (q0 := 0) (rest := []) hF hW mw_X12_311 (c_X12_isActIn l K a hc30) ⟨Nat.le_of_ble_eq_true rfl, Nat.le_of_ble_eq_true rfl⟩ rfl rfl (pM_0 K a _) rfl hl.1 rfl (Nat.le_of_ble_eq_true rfl) dX12_tile_78 ⟨Nat.le_of_ble_eq_true rfl, Nat.le_of_ble_eq_true rfl⟩ (fun _ H locs hW => ?_)
        refine lz_eq (tgt := 118) hx hb dX12_tile_81 (by decide) (fun q31 => ?_) (fun q31 => ?_)
        · have h := ifn q31 h
          refine lv_iinc (v := (x5 + 1)) (lv' := [(5, .int (x5 + 1)), (0, .ref (a 0)), (1, .int x1), (2, .int x2), (3, .int x3), (4, .int x4)]) hx hb dX12_tile_118 hl (k := 5) rfl rfl (by decide) rfl (fun ls hl => ?_)
          refine lv_goto (tgt := 65) hx hb dX12_tile_121 (by decide) ?_
          exact ih65 x1 x2 x3 x4 (x5 + 1) _ _ _ _ h hW (lv_sub hl [1, 2, 3, 4, 5, 0] rfl)
        · have h := ifp q31 h
          refine lv_aload_n hx hb dX12_tile_84 rfl (lv_at hl 0 rfl) ?_
          refine g_X12_32 hF hW dX12_tile_85 ?_
          refine lv_iload hx hb dX12_tile_88 (lv_at hl 5 rfl) ?_
          obtain ⟨q32, h⟩ := ck_some h
          refine w_ild hF hW (pM_8 K a _) q32 dX12_tile_90 ?_
          refine lv_iload hx hb dX12_tile_91 (lv_at hl 4 rfl) ?_
          refine lv_iload_n hx hb dX12_tile_93 rfl (lv_at hl 2 rfl) ?_
          refine lv_iadd hx hb dX12_tile_94 ?_
          refine lv_icmp_lt (tgt := 118) hx hb dX12_tile_95 (by decide) (fun q33 => ?_) (fun q33 => ?_)
          · have h := ifp q33 h
            refine lv_iinc (v := (x5 + 1)) (lv' := [(5, .int (x5 + 1)), (0, .ref (a 0)), (1, .int x1), (2, .int x2), (3, .int x3), (4, .int x4)]) hx hb dX12_tile_118 hl (k := 5) rfl rfl (by decide) rfl (fun ls hl => ?_)
            refine lv_goto (tgt := 65) hx hb dX12_tile_121 (by decide) ?_
            exact ih65 x1 x2 x3 x4 (x5 + 1) _ _ _ _ h hW (lv_sub hl [1, 2, 3, 4, 5, 0] rfl)
          · have h := ifn q33 h
            refine lv_aload_n hx hb dX12_tile_98 rfl (lv_at hl 0 rfl) ?_
            refine lv_iload hx hb dX12_tile_99 (lv_at hl 5 rfl) ?_
            refine lv_iload hx hb dX12_tile_101 (lv_at hl 4 rfl) ?_
            refine lv_iload_n hx hb dX12_tile_103 rfl (lv_at hl 2 rfl) ?_
            refine lv_iload_n hx hb dX12_tile_104 rfl (lv_at hl 3 rfl) ?_
            obtain ⟨r34, M35, hc36, h⟩ := bd_some h
            refine cV_i (ci := 12) (q0 := 0) (rest := []) hF hW mw_X12_342 (c_X12_tiles l K a hc36) ⟨Nat.le_of_ble_eq_true rfl, Nat.le_of_ble_eq_true rfl⟩ rfl rfl (pM_0 K a _) rfl hl.1 rfl (Nat.le_of_ble_eq_true rfl) dX12_tile_105 ⟨Nat.le_of_ble_eq_true rfl, Nat.le_of_ble_eq_true rfl⟩ (fun _ H locs hW => ?_)
            refine lz_ne (tgt := 118) hx hb dX12_tile_108 (by decide) (fun q37 => ?_) (fun q37 => ?_)
            · have h := ifp q37 h
              refine lv_iinc (v := (x5 + 1)) (lv' := [(5, .int (x5 + 1)), (0, .ref (a 0)), (1, .int x1), (2, .int x2), (3, .int x3), (4, .int x4)]) hx hb dX12_tile_118 hl (k := 5) rfl rfl (by decide) rfl (fun ls hl => ?_)
              refine lv_goto (tgt := 65) hx hb dX12_tile_121 (by decide) ?_
              exact ih65 x1 x2 x3 x4 (x5 + 1) _ _ _ _ h hW (lv_sub hl [1, 2, 3, 4, 5, 0] rfl)
            · have h := ifn q37 h
              refine lv_aload_n hx hb dX12_tile_111 rfl (lv_at hl 0 rfl) ?_
              obtain ⟨M39, hc40, h⟩ := bm_some h
              refine cV_v (ci := 12) (q0 := 0) (rest := []) hF hW mw_X12_336 (c_X12_giveTried l K a hc40) ⟨Nat.le_of_ble_eq_true rfl, Nat.le_of_ble_eq_true rfl⟩ rfl rfl (pM_0 K a _) rfl hl.1 rfl (Nat.le_of_ble_eq_true rfl) dX12_tile_112 ⟨Nat.le_of_ble_eq_true rfl, Nat.le_of_ble_eq_true rfl⟩ (fun _ H locs hW => ?_)
              refine lv_bipush (v := (-2)) hx hb dX12_tile_115 (by decide) ?_
              obtain ⟨rfl, rfl⟩ := Prod.mk.inj (Option.some.inj h)
              exact rt_i hF hr hk rfl (fun _ => 0) hW rfl dX12_tile_117
  unfold f_X12_tile at h
  refine lv_aload_n hx hb dX12_tile_0 rfl (lv_at hl 0 rfl) ?_
  refine lv_iload_n hx hb dX12_tile_1 rfl (lv_at hl 1 rfl) ?_
  obtain ⟨r1, hc3, h⟩ := bq_some h
  refine cV_i (ci := 12) (q0 := 0) (rest := []) hF hW mw_X12_177 (c_X12_isNode l K a hc3) ⟨Nat.le_of_ble_eq_true rfl, Nat.le_of_ble_eq_true rfl⟩ rfl rfl (pM_0 K a _) rfl hl.1 rfl (Nat.le_of_ble_eq_true rfl) dX12_tile_2 ⟨Nat.le_of_ble_eq_true rfl, Nat.le_of_ble_eq_true rfl⟩ (fun _ H locs hW => ?_)
  refine lz_eq (tgt := 34) hx hb dX12_tile_5 (by decide) (fun q4 => ?_) (fun q4 => ?_)
  · have h := ifn q4 h
    refine lv_iconst (v := (-1)) hx hb dX12_tile_34 (by decide) ?_
    obtain ⟨rfl, rfl⟩ := Prod.mk.inj (Option.some.inj h)
    exact rt_i hF hr hk rfl (fun _ => 0) hW rfl dX12_tile_35
  · have h := ifp q4 h
    refine lv_iload_n hx hb dX12_tile_8 rfl (lv_at hl 2 rfl) ?_
    refine lv_i2l hx hb dX12_tile_9 rfl ?_
    refine lv_lconst (v := 1) hx hb dX12_tile_10 (by decide) ?_
    refine lv_ldc2 hx hb hF.2.2.2.1 (hF.2.2.1 _ kl_X12_210) dX12_tile_11 ?_
    obtain ⟨r5, hc7, h⟩ := bq_some h
    refine cS_i (rest := []) hF hW mw_X12_154 (c_X12_in l K hc7) ⟨Nat.le_of_ble_eq_true rfl, Nat.le_of_ble_eq_true rfl⟩ rfl hl.1 rfl (Nat.le_of_ble_eq_true rfl) dX12_tile_14 ⟨Nat.le_of_ble_eq_true rfl, Nat.le_of_ble_eq_true rfl⟩ (fun _ H locs hW => ?_)
    refine lz_eq (tgt := 34) hx hb dX12_tile_17 (by decide) (fun q8 => ?_) (fun q8 => ?_)
    · have h := ifn q8 h
      refine lv_iconst (v := (-1)) hx hb dX12_tile_34 (by decide) ?_
      obtain ⟨rfl, rfl⟩ := Prod.mk.inj (Option.some.inj h)
      exact rt_i hF hr hk rfl (fun _ => 0) hW rfl dX12_tile_35
    · have h := ifp q8 h
      refine lv_iload_n hx hb dX12_tile_20 rfl (lv_at hl 3 rfl) ?_
      refine lv_i2l hx hb dX12_tile_21 rfl ?_
      refine lv_ldc2 hx hb hF.2.2.2.1 (hF.2.2.1 _ kl_X12_158) dX12_tile_22 ?_
      refine lv_ldc2 hx hb hF.2.2.2.1 (hF.2.2.1 _ kl_X12_330) dX12_tile_25 ?_
      obtain ⟨r9, hc11, h⟩ := bq_some h
      refine cS_i (rest := []) hF hW mw_X12_154 (c_X12_in l K hc11) ⟨Nat.le_of_ble_eq_true rfl, Nat.le_of_ble_eq_true rfl⟩ rfl hl.1 rfl (Nat.le_of_ble_eq_true rfl) dX12_tile_28 ⟨Nat.le_of_ble_eq_true rfl, Nat.le_of_ble_eq_true rfl⟩ (fun _ H locs hW => ?_)
      refine lz_ne (tgt := 36) hx hb dX12_tile_31 (by decide) (fun q12 => ?_) (fun q12 => ?_)
      · have h := ifp q12 h
        refine lv_aload_n hx hb dX12_tile_36 rfl (lv_at hl 0 rfl) ?_
        refine lv_iload_n hx hb dX12_tile_37 rfl (lv_at hl 1 rfl) ?_
        obtain ⟨r13, hc15, h⟩ := bq_some h
        refine cV_i (ci := 12) (q0 := 0) (rest := []) hF hW mw_X12_173 (c_X12_isLoop l K a hc15) ⟨Nat.le_of_ble_eq_true rfl, Nat.le_of_ble_eq_true rfl⟩ rfl rfl (pM_0 K a _) rfl hl.1 rfl (Nat.le_of_ble_eq_true rfl) dX12_tile_38 ⟨Nat.le_of_ble_eq_true rfl, Nat.le_of_ble_eq_true rfl⟩ (fun _ H locs hW => ?_)
        refine lz_ne (tgt := 50) hx hb dX12_tile_41 (by decide) (fun q16 => ?_) (fun q16 => ?_)
        · have h := ifp q16 h
          refine lv_aload_n hx hb dX12_tile_50 rfl (lv_at hl 0 rfl) ?_
          refine g_X12_32 hF hW dX12_tile_51 ?_
          refine lv_iload_n hx hb dX12_tile_54 rfl (lv_at hl 1 rfl) ?_
          obtain ⟨q17, h⟩ := ck_some h
          refine w_ild hF hW (pM_8 K a _) q17 dX12_tile_55 ?_
          refine lv_istore (lv' := [(4, .int (M.1 8 x1.toNatClampNeg)), (0, .ref (a 0)), (1, .int x1), (2, .int x2), (3, .int x3)]) hx hb dX12_tile_56 hl (by decide) rfl (fun ls hl => ?_)
          refine lv_aload_n hx hb dX12_tile_58 rfl (lv_at hl 1 rfl) ?_
          obtain ⟨M19, hc20, h⟩ := bm_some h
          refine cV_v (ci := 12) (q0 := 0) (rest := []) hF hW mw_X12_317 (c_X12_keepTried l K a hc20) ⟨Nat.le_of_ble_eq_true rfl, Nat.le_of_ble_eq_true rfl⟩ rfl rfl (pM_0 K a _) rfl hl.1 rfl (Nat.le_of_ble_eq_true rfl) dX12_tile_59 ⟨Nat.le_of_ble_eq_true rfl, Nat.le_of_ble_eq_true rfl⟩ (fun _ H locs hW => ?_)
          refine lv_iconst (v := 0) hx hb dX12_tile_62 (by decide) ?_
          refine lv_istore (lv' := [(5, .int 0), (4, .int (M.1 8 x1.toNatClampNeg)), (0, .ref (a 0)), (1, .int x1), (2, .int x2), (3, .int x3)]) hx hb dX12_tile_63 hl (by decide) rfl (fun ls hl => ?_)
          exact J65 100000 x1 x2 x3 (M.1 8 x1.toNatClampNeg) 0 _ _ _ _ h hW (lv_sub hl [2, 3, 4, 5, 1, 0] rfl)
        · have h := ifn q16 h
          refine lv_aload_n hx hb dX12_tile_44 rfl (lv_at hl 0 rfl) ?_
          refine lv_iconst (v := 3) hx hb dX12_tile_45 (by decide) ?_
          obtain ⟨r21, M22, hc23, h⟩ := bd_some h
          refine cV_i (ci := 12) (q0 := 0) (rest := []) hF hW mw_X12_207 (c_X12_meets l K a hc23) ⟨Nat.le_of_ble_eq_true rfl, Nat.le_of_ble_eq_true rfl⟩ rfl rfl (pM_0 K a _) rfl hl.1 rfl (Nat.le_of_ble_eq_true rfl) dX12_tile_46 ⟨Nat.le_of_ble_eq_true rfl, Nat.le_of_ble_eq_true rfl⟩ (fun _ H locs hW => ?_)
          obtain ⟨rfl, rfl⟩ := Prod.mk.inj (Option.some.inj h)
          exact rt_i hF hr hk rfl (fun _ => 0) hW rfl dX12_tile_49
      · have h := ifn q12 h
        refine lv_iconst (v := (-1)) hx hb dX12_tile_34 (by decide) ?_
        obtain ⟨rfl, rfl⟩ := Prod.mk.inj (Option.some.inj h)
        exact rt_i hF hr hk rfl (fun _ => 0) hW rfl dX12_tile_35
set_option maxRecDepth 100000 in
set_option maxHeartbeats 1000000 in
theorem c_X12_part (l : Launch) (K : Kx) (a : Nat → Nat) {M M0 : Mem} {x1 : Int32} {r0 : Int32} (h : f_X12_part M x1 = some (r0, M0)) : CMi l yX12_part cX12_part 7 (some .int) ({ frames := 2, cells := 0, slots := 0, locals := 46 } : Room) K [.ref (a 0), .int x1] (wM K a M) (fun _ => wM K a M0) r0 := by
  refine cs_i (by decide +kernel) (Nat.le_of_ble_eq_true rfl) ?_
  intro p e s m args below meth c A ls hF hr hk hnm hW hl
  have hx := hF.1
  have hb := hF.2.1
  have hl : lv_has ls 7 [(0, .ref (a 0)), (1, .int x1)] := hl
  obtain ⟨H, hH⟩ : ∃ z, z = s.heap := ⟨_, rfl⟩
  rw [← hH] at hW ⊢
  have J37 : ∀ (n37 : Nat) (x1 : Int32) (x2 : Int32) (x3 : Int32) (M : Mem) (H : Heap) (locs : List Loc) (ls : Array Slot), f_X12_part_37 n37 x1 x2 x3 M = some (r0, M0) → Wd K A s (wM K a M) H locs → lv_has ls 7 [(0, .ref (a 0)), (1, .int x1), (2, .int x2), (3, .int x3)] → W p l e ({ frames := 2, cells := 0, slots := 0, locals := 46 } : Room) s m args below meth c H locs 0 0 (EndI K A (fun _ => wM K a M0) r0 below args s ({ frames := 2, cells := 0, slots := 0, locals := 46 } : Room)) (F0 m 37 ls []) := by
    intro n37
    induction n37 with
    | zero => intro x1 x2 x3 M H locs ls h; exact absurd h (by simp [f_X12_part_37])
    | succ n37 ih37 =>
      intro x1 x2 x3 M H locs ls h hW hl
      rw [f_X12_part_37] at h
      refine lv_iload_n hx hb dX12_part_37 rfl (lv_at hl 3 rfl) ?_
      refine lv_aload_n hx hb dX12_part_38 rfl (lv_at hl 0 rfl) ?_
      refine g_X12_170 hF hW dX12_part_39 ?_
      refine lv_icmp_ge (tgt := 129) hx hb dX12_part_42 (by decide) (fun q16 => ?_) (fun q16 => ?_)
      · have h := ifp q16 h
        refine lv_aload_n hx hb dX12_part_129 rfl (lv_at hl 0 rfl) ?_
        obtain ⟨r17, M18, hc19, h⟩ := bd_some h
        refine cV_i (ci := 12) (q0 := 0) (rest := []) hF hW mw_X12_324 (c_X12_turned l K a hc19) ⟨Nat.le_of_ble_eq_true rfl, Nat.le_of_ble_eq_true rfl⟩ rfl rfl (pM_0 K a _) rfl hl.1 rfl (Nat.le_of_ble_eq_true rfl) dX12_part_130 ⟨Nat.le_of_ble_eq_true rfl, Nat.le_of_ble_eq_true rfl⟩ (fun _ H locs hW => ?_)
        obtain ⟨rfl, rfl⟩ := Prod.mk.inj (Option.some.inj h)
        exact rt_i hF hr hk rfl (fun _ => 0) hW rfl dX12_part_133
      · have h := ifn q16 h
        refine lv_aload_n hx hb dX12_part_45 rfl (lv_at hl 0 rfl) ?_
        refine lv_iload_n hx hb dX12_part_46 rfl (lv_at hl 3 rfl) ?_
        refine lv_iload_n hx hb dX12_part_47 rfl (lv_at hl 1 rfl) ?_
        obtain ⟨r20, hc22, h⟩ := bq_some h
        refine cV_i (ci := 12) (q0 := 0) (rest := []) hF hW mw_X12_311 (c_X12_isActIn l K a hc22) ⟨Nat.le_of_ble_eq_true rfl, Nat.le_of_ble_eq_true rfl⟩ rfl rfl (pM_0 K a _) rfl hl.1 rfl (Nat.le_of_ble_eq_true rfl) dX12_part_48 ⟨Nat.le_of_ble_eq_true rfl, Nat.le_of_ble_eq_true rfl⟩ (fun _ H locs hW => ?_)
        refine lz_eq (tgt := 123) hx hb dX12_part_51 (by decide) (fun q23 => ?_) (fun q23 => ?_)
        · have h := ifn q23 h
          refine lv_iinc (v := (x3 + 1)) (lv' := [(3, .int (x3 + 1)), (0, .ref (a 0)), (1, .int x1), (2, .int x2)]) hx hb dX12_part_123 hl (k := 3) rfl rfl (by decide) rfl (fun ls hl => ?_)
          refine lv_goto (tgt := 37) hx hb dX12_part_126 (by decide) ?_
          exact ih37 x1 x2 (x3 + 1) _ _ _ _ h hW (lv_sub hl [1, 2, 3, 0] rfl)
        · have h := ifp q23 h
          refine lv_iload_n hx hb dX12_part_54 rfl (lv_at hl 3 rfl) ?_
          refine lv_aload_n hx hb dX12_part_55 rfl (lv_at hl 0 rfl) ?_
          refine lv_iload_n hx hb dX12_part_56 rfl (lv_at hl 3 rfl) ?_
          refine lv_iload_n hx hb dX12_part_57 rfl (lv_at hl 2 rfl) ?_
          obtain ⟨r24, hc26, h⟩ := bq_some h
          refine cV_i (ci := 12) (q0 := 0) (rest := [.int x3]) hF hW mw_X12_314 (c_X12_loopRow l K a hc26) ⟨Nat.le_of_ble_eq_true rfl, Nat.le_of_ble_eq_true rfl⟩ rfl rfl (pM_0 K a _) rfl hl.1 rfl (Nat.le_of_ble_eq_true rfl) dX12_part_58 ⟨Nat.le_of_ble_eq_true rfl, Nat.le_of_ble_eq_true rfl⟩ (fun _ H locs hW => ?_)
          refine lv_iconst (v := 1) hx hb dX12_part_61 (by decide) ?_
          refine lv_isub hx hb dX12_part_62 ?_
          obtain ⟨r27, hc29, h⟩ := bq_some h
          refine cS_i (rest := []) hF hW mw_X12_295 (c_X12_rowAt l K hc29) ⟨Nat.le_of_ble_eq_true rfl, Nat.le_of_ble_eq_true rfl⟩ rfl hl.1 rfl (Nat.le_of_ble_eq_true rfl) dX12_part_63 ⟨Nat.le_of_ble_eq_true rfl, Nat.le_of_ble_eq_true rfl⟩ (fun _ H locs hW => ?_)
          refine lv_istore (lv' := [(4, .int r27), (0, .ref (a 0)), (1, .int x1), (2, .int x2), (3, .int x3)]) hx hb dX12_part_66 hl (by decide) rfl (fun ls hl => ?_)
          refine lv_ldc2 hx hb hF.2.2.2.1 (hF.2.2.1 _ kl_X12_345) dX12_part_68 ?_
          refine lv_aload_n hx hb dX12_part_71 rfl (lv_at hl 1 rfl) ?_
          refine g_X12_102 hF hW dX12_part_72 ?_
          refine lv_iload hx hb dX12_part_75 (lv_at hl 0 rfl) ?_
          obtain ⟨q30, h⟩ := ck_some h
          refine w_ild hF hW (pM_31 K a _) q30 dX12_part_77 ?_
          refine lv_i2l hx hb dX12_part_78 rfl ?_
          refine lv_lmul hx hb dX12_part_79 ?_
          refine lv_aload_n hx hb dX12_part_80 rfl (lv_at hl 1 rfl) ?_
          refine lv_iload_n hx hb dX12_part_81 rfl (lv_at hl 4 rfl) ?_
          refine lv_iload_n hx hb dX12_part_82 rfl (lv_at hl 3 rfl) ?_
          refine lv_iconst (v := 1) hx hb dX12_part_83 (by decide) ?_
          refine lv_iadd hx hb dX12_part_84 ?_
          obtain ⟨r31, hc33, h⟩ := bq_some h
          refine cV_i (ci := 12) (q0 := 0) (rest := [.long (100 * (M.1 31 r27.toNatClampNeg).toInt64)]) hF hW mw_X12_301 (c_X12_placeOf l K a hc33) ⟨Nat.le_of_ble_eq_true rfl, Nat.le_of_ble_eq_true rfl⟩ rfl rfl (pM_0 K a _) rfl hl.1 rfl (Nat.le_of_ble_eq_true rfl) dX12_part_85 ⟨Nat.le_of_ble_eq_true rfl, Nat.le_of_ble_eq_true rfl⟩ (fun _ H locs hW => ?_)
          refine lv_i2l hx hb dX12_part_88 rfl ?_
          refine lv_ladd hx hb dX12_part_89 ?_
          refine lv_lstore (lv' := [(5, .long ((100 * (M.1 31 r27.toNatClampNeg).toInt64) + r31.toInt64)), (4, .int r27), (0, .ref (a 0)), (1, .int x1), (2, .int x2), (3, .int x3)]) hx hb dX12_part_90 hl (by decide) rfl (fun ls hl => ?_)
          refine lv_lload hx hb dX12_part_92 (lv_at hl 0 rfl) ?_
          refine lv_ldc2 hx hb hF.2.2.2.1 (hF.2.2.1 _ kl_X12_309) dX12_part_94 ?_
          refine lv_ldc2 hx hb hF.2.2.2.1 (hF.2.2.1 _ kl_X12_280) dX12_part_97 ?_
          obtain ⟨r34, hc36, h⟩ := bq_some h
          refine cS_i (rest := []) hF hW mw_X12_154 (c_X12_in l K hc36) ⟨Nat.le_of_ble_eq_true rfl, Nat.le_of_ble_eq_true rfl⟩ rfl hl.1 rfl (Nat.le_of_ble_eq_true rfl) dX12_part_100 ⟨Nat.le_of_ble_eq_true rfl, Nat.le_of_ble_eq_true rfl⟩ (fun _ H locs hW => ?_)
          refine lz_ne (tgt := 113) hx hb dX12_part_103 (by decide) (fun q37 => ?_) (fun q37 => ?_)
          · have h := ifp q37 h
            refine lv_aload_n hx hb dX12_part_113 rfl (lv_at hl 2 rfl) ?_
            refine g_X12_102 hF hW dX12_part_114 ?_
            refine lv_iload hx hb dX12_part_117 (lv_at hl 1 rfl) ?_
            refine lv_lload hx hb dX12_part_119 (lv_at hl 0 rfl) ?_
            refine lv_l2i hx hb dX12_part_121 rfl ?_
            obtain ⟨q38, h⟩ := ck_some h
            refine w_ist hF hW (pM_31 K a _) q38 (uM_31 K a _ _ _) dX12_part_122 (fun H locs hW => ?_)
            refine lv_iinc (v := (x3 + 1)) (lv' := [(3, .int (x3 + 1)), (5, .long ((100 * (M.1 31 r27.toNatClampNeg).toInt64) + r31.toInt64)), (4, .int r27), (0, .ref (a 0)), (1, .int x1), (2, .int x2)]) hx hb dX12_part_123 hl (k := 5) rfl rfl (by decide) rfl (fun ls hl => ?_)
            refine lv_goto (tgt := 37) hx hb dX12_part_126 (by decide) ?_
            exact ih37 x1 x2 (x3 + 1) _ _ _ _ h hW (lv_sub hl [3, 4, 5, 0] rfl)
          · have h := ifn q37 h
            refine lv_aload_n hx hb dX12_part_106 rfl (lv_at hl 2 rfl) ?_
            obtain ⟨M40, hc41, h⟩ := bm_some h
            refine cV_v (ci := 12) (q0 := 0) (rest := []) hF hW mw_X12_336 (c_X12_giveTried l K a hc41) ⟨Nat.le_of_ble_eq_true rfl, Nat.le_of_ble_eq_true rfl⟩ rfl rfl (pM_0 K a _) rfl hl.1 rfl (Nat.le_of_ble_eq_true rfl) dX12_part_107 ⟨Nat.le_of_ble_eq_true rfl, Nat.le_of_ble_eq_true rfl⟩ (fun _ H locs hW => ?_)
            refine lv_bipush (v := (-6)) hx hb dX12_part_110 (by decide) ?_
            obtain ⟨rfl, rfl⟩ := Prod.mk.inj (Option.some.inj h)
            exact rt_i hF hr hk rfl (fun _ => 0) hW rfl dX12_part_112
  unfold f_X12_part at h
  refine lv_aload_n hx hb dX12_part_0 rfl (lv_at hl 0 rfl) ?_
  refine lv_iload_n hx hb dX12_part_1 rfl (lv_at hl 1 rfl) ?_
  obtain ⟨r1, hc3, h⟩ := bq_some h
  refine cV_i (ci := 12) (q0 := 0) (rest := []) hF hW mw_X12_177 (c_X12_isNode l K a hc3) ⟨Nat.le_of_ble_eq_true rfl, Nat.le_of_ble_eq_true rfl⟩ rfl rfl (pM_0 K a _) rfl hl.1 rfl (Nat.le_of_ble_eq_true rfl) dX12_part_2 ⟨Nat.le_of_ble_eq_true rfl, Nat.le_of_ble_eq_true rfl⟩ (fun _ H locs hW => ?_)
  refine lz_ne (tgt := 10) hx hb dX12_part_5 (by decide) (fun q4 => ?_) (fun q4 => ?_)
  · have h := ifp q4 h
    refine lv_aload_n hx hb dX12_part_10 rfl (lv_at hl 0 rfl) ?_
    refine lv_iload_n hx hb dX12_part_11 rfl (lv_at hl 1 rfl) ?_
    obtain ⟨r5, hc7, h⟩ := bq_some h
    refine cV_i (ci := 12) (q0 := 0) (rest := []) hF hW mw_X12_173 (c_X12_isLoop l K a hc7) ⟨Nat.le_of_ble_eq_true rfl, Nat.le_of_ble_eq_true rfl⟩ rfl rfl (pM_0 K a _) rfl hl.1 rfl (Nat.le_of_ble_eq_true rfl) dX12_part_12 ⟨Nat.le_of_ble_eq_true rfl, Nat.le_of_ble_eq_true rfl⟩ (fun _ H locs hW => ?_)
    refine lz_ne (tgt := 24) hx hb dX12_part_15 (by decide) (fun q8 => ?_) (fun q8 => ?_)
    · have h := ifp q8 h
      refine lv_aload_n hx hb dX12_part_24 rfl (lv_at hl 0 rfl) ?_
      refine g_X12_32 hF hW dX12_part_25 ?_
      refine lv_iload_n hx hb dX12_part_28 rfl (lv_at hl 1 rfl) ?_
      obtain ⟨q9, h⟩ := ck_some h
      refine w_ild hF hW (pM_8 K a _) q9 dX12_part_29 ?_
      refine lv_istore_n (lv' := [(2, .int (M.1 8 x1.toNatClampNeg)), (0, .ref (a 0)), (1, .int x1)]) hx hb dX12_part_30 rfl hl (by decide) rfl (fun ls hl => ?_)
      refine lv_aload_n hx hb dX12_part_31 rfl (lv_at hl 1 rfl) ?_
      obtain ⟨M11, hc12, h⟩ := bm_some h
      refine cV_v (ci := 12) (q0 := 0) (rest := []) hF hW mw_X12_317 (c_X12_keepTried l K a hc12) ⟨Nat.le_of_ble_eq_true rfl, Nat.le_of_ble_eq_true rfl⟩ rfl rfl (pM_0 K a _) rfl hl.1 rfl (Nat.le_of_ble_eq_true rfl) dX12_part_32 ⟨Nat.le_of_ble_eq_true rfl, Nat.le_of_ble_eq_true rfl⟩ (fun _ H locs hW => ?_)
      refine lv_iconst (v := 0) hx hb dX12_part_35 (by decide) ?_
      refine lv_istore_n (lv' := [(3, .int 0), (2, .int (M.1 8 x1.toNatClampNeg)), (0, .ref (a 0)), (1, .int x1)]) hx hb dX12_part_36 rfl hl (by decide) rfl (fun ls hl => ?_)
      exact J37 100000 x1 (M.1 8 x1.toNatClampNeg) 0 _ _ _ _ h hW (lv_sub hl [2, 3, 1, 0] rfl)
    · have h := ifn q8 h
      refine lv_aload_n hx hb dX12_part_18 rfl (lv_at hl 0 rfl) ?_
      refine lv_iconst (v := 3) hx hb dX12_part_19 (by decide) ?_
      obtain ⟨r13, M14, hc15, h⟩ := bd_some h
      refine cV_i (ci := 12) (q0 := 0) (rest := []) hF hW mw_X12_207 (c_X12_meets l K a hc15) ⟨Nat.le_of_ble_eq_true rfl, Nat.le_of_ble_eq_true rfl⟩ rfl rfl (pM_0 K a _) rfl hl.1 rfl (Nat.le_of_ble_eq_true rfl) dX12_part_20 ⟨Nat.le_of_ble_eq_true rfl, Nat.le_of_ble_eq_true rfl⟩ (fun _ H locs hW => ?_)
      obtain ⟨rfl, rfl⟩ := Prod.mk.inj (Option.some.inj h)
      exact rt_i hF hr hk rfl (fun _ => 0) hW rfl dX12_part_23
  · have h := ifn q4 h
    refine lv_iconst (v := (-1)) hx hb dX12_part_8 (by decide) ?_
    obtain ⟨rfl, rfl⟩ := Prod.mk.inj (Option.some.inj h)
    exact rt_i hF hr hk rfl (fun _ => 0) hW rfl dX12_part_9
set_option maxRecDepth 100000 in
set_option maxHeartbeats 1000000 in
theorem c_X12_firstActIn (l : Launch) (K : Kx) (a : Nat → Nat) {M : Mem} {x1 : Int32} {r0 : Int32} (h : f_X12_firstActIn M x1 = some r0) : CMi l yX12_firstActIn cX12_firstActIn 3 (some .int) ({ frames := 2, cells := 0, slots := 0, locals := 45 } : Room) K [.ref (a 0), .int x1] (wM K a M) (fun _ => wM K a M) r0 := by
  refine cs_i (by decide +kernel) (Nat.le_of_ble_eq_true rfl) ?_
  intro p e s m args below meth c A ls hF hr hk hnm hW hl
  have hx := hF.1
  have hb := hF.2.1
  have hl : lv_has ls 3 [(0, .ref (a 0)), (1, .int x1)] := hl
  obtain ⟨H, hH⟩ : ∃ z, z = s.heap := ⟨_, rfl⟩
  rw [← hH] at hW ⊢
  have J2 : ∀ (n2 : Nat) (x1 : Int32) (x2 : Int32) (M : Mem) (H : Heap) (locs : List Loc) (ls : Array Slot), f_X12_firstActIn_2 n2 x1 x2 M = some r0 → Wd K A s (wM K a M) H locs → lv_has ls 3 [(0, .ref (a 0)), (1, .int x1), (2, .int x2)] → W p l e ({ frames := 2, cells := 0, slots := 0, locals := 45 } : Room) s m args below meth c H locs 0 0 (EndI K A (fun _ => wM K a M) r0 below args s ({ frames := 2, cells := 0, slots := 0, locals := 45 } : Room)) (F0 m 2 ls []) := by
    intro n2
    induction n2 with
    | zero => intro x1 x2 M H locs ls h; exact absurd h (by simp [f_X12_firstActIn_2])
    | succ n2 ih2 =>
      intro x1 x2 M H locs ls h hW hl
      rw [f_X12_firstActIn_2] at h
      refine lv_iload_n hx hb dX12_firstActIn_2 rfl (lv_at hl 2 rfl) ?_
      refine lv_aload_n hx hb dX12_firstActIn_3 rfl (lv_at hl 0 rfl) ?_
      refine g_X12_170 hF hW dX12_firstActIn_4 ?_
      refine lv_icmp_ge (tgt := 27) hx hb dX12_firstActIn_7 (by decide) (fun q1 => ?_) (fun q1 => ?_)
      · have h := ifp q1 h
        refine lv_bipush (v := (-9)) hx hb dX12_firstActIn_27 (by decide) ?_
        obtain rfl := Option.some.inj h
        exact rt_i hF hr hk rfl (fun _ => 0) hW rfl dX12_firstActIn_29
      · have h := ifn q1 h
        refine lv_aload_n hx hb dX12_firstActIn_10 rfl (lv_at hl 0 rfl) ?_
        refine lv_iload_n hx hb dX12_firstActIn_11 rfl (lv_at hl 2 rfl) ?_
        refine lv_iload_n hx hb dX12_firstActIn_12 rfl (lv_at hl 1 rfl) ?_
        obtain ⟨r2, hc4, h⟩ := bq_some h
        refine cV_i (ci := 12) (q0 := 0) (rest := []) hF hW mw_X12_311 (c_X12_isActIn l K a hc4) ⟨Nat.le_of_ble_eq_true rfl, Nat.le_of_ble_eq_true rfl⟩ rfl rfl (pM_0 K a _) rfl hl.1 rfl (Nat.le_of_ble_eq_true rfl) dX12_firstActIn_13 ⟨Nat.le_of_ble_eq_true rfl, Nat.le_of_ble_eq_true rfl⟩ (fun _ H locs hW => ?_)
        refine lz_eq (tgt := 21) hx hb dX12_firstActIn_16 (by decide) (fun q5 => ?_) (fun q5 => ?_)
        · have h := ifn q5 h
          refine lv_iinc (v := (x2 + 1)) (lv' := [(2, .int (x2 + 1)), (0, .ref (a 0)), (1, .int x1)]) hx hb dX12_firstActIn_21 hl (k := 2) rfl rfl (by decide) rfl (fun ls hl => ?_)
          refine lv_goto (tgt := 2) hx hb dX12_firstActIn_24 (by decide) ?_
          exact ih2 x1 (x2 + 1) _ _ _ _ h hW (lv_sub hl [1, 2, 0] rfl)
        · have h := ifp q5 h
          refine lv_iload_n hx hb dX12_firstActIn_19 rfl (lv_at hl 2 rfl) ?_
          obtain rfl := Option.some.inj h
          exact rt_i hF hr hk rfl (fun _ => 0) hW rfl dX12_firstActIn_20
  unfold f_X12_firstActIn at h
  refine lv_iconst (v := 0) hx hb dX12_firstActIn_0 (by decide) ?_
  refine lv_istore_n (lv' := [(2, .int 0), (0, .ref (a 0)), (1, .int x1)]) hx hb dX12_firstActIn_1 rfl hl (by decide) rfl (fun ls hl => ?_)
  exact J2 100000 x1 0 _ _ _ _ h hW (lv_sub hl [1, 2, 0] rfl)
set_option maxRecDepth 100000 in
set_option maxHeartbeats 1000000 in
theorem c_X12_join (l : Launch) (K : Kx) (a : Nat → Nat) {M M0 : Mem} {x1 : Int32} {x2 : Int32} {r0 : Int32} (h : f_X12_join M x1 x2 = some (r0, M0)) : CMi l yX12_join cX12_join 7 (some .int) ({ frames := 3, cells := 0, slots := 0, locals := 67 } : Room) K [.ref (a 0), .int x1, .int x2] (wM K a M) (fun _ => wM K a M0) r0 := by
  refine cs_i (by decide +kernel) (Nat.le_of_ble_eq_true rfl) ?_
  intro p e s m args below meth c A ls hF hr hk hnm hW hl
  have hx := hF.1
  have hb := hF.2.1
  have hl : lv_has ls 7 [(0, .ref (a 0)), (1, .int x1), (2, .int x2)] := hl
  obtain ⟨H, hH⟩ : ∃ z, z = s.heap := ⟨_, rfl⟩
  rw [← hH] at hW ⊢
  have J34 : ∀ (M : Mem) (H : Heap) (locs : List Loc) (ls : Array Slot), f_X12_join_34 M = some (r0, M0) → Wd K A s (wM K a M) H locs → lv_has ls 7 [(0, .ref (a 0))] → W p l e ({ frames := 3, cells := 0, slots := 0, locals := 67 } : Room) s m args below meth c H locs 0 0 (EndI K A (fun _ => wM K a M0) r0 below args s ({ frames := 3, cells := 0, slots := 0, locals := 67 } : Room)) (F0 m 34 ls []) := by
    intro M H locs ls h hW hl
    unfold f_X12_join_34 at h
    refine lv_aload_n hx hb dX12_join_34 rfl (lv_at hl 0 rfl) ?_
    refine lv_iconst (v := 3) hx hb dX12_join_35 (by decide) ?_
    obtain ⟨r36, M37, hc38, h⟩ := bd_some h
    refine cV_i (ci := 12) (q0 := 0) (rest := []) hF hW mw_X12_207 (c_X12_meets l K a hc38) ⟨Nat.le_of_ble_eq_true rfl, Nat.le_of_ble_eq_true rfl⟩ rfl rfl (pM_0 K a _) rfl hl.1 rfl (Nat.le_of_ble_eq_true rfl) dX12_join_36 ⟨Nat.le_of_ble_eq_true rfl, Nat.le_of_ble_eq_true rfl⟩ (fun _ H locs hW => ?_)
    obtain ⟨rfl, rfl⟩ := Prod.mk.inj (Option.some.inj h)
    exact rt_i hF hr hk rfl (fun _ => 0) hW rfl dX12_join_39
  have J109 : ∀ (n109 : Nat) (x2 : Int32) (x4 : Int32) (x5 : Int32) (x6 : Int32) (M : Mem) (H : Heap) (locs : List Loc) (ls : Array Slot), f_X12_join_109 n109 x2 x4 x5 x6 M = some (r0, M0) → Wd K A s (wM K a M) H locs → lv_has ls 7 [(0, .ref (a 0)), (2, .int x2), (4, .int x4), (5, .int x5), (6, .int x6)] → W p l e ({ frames := 3, cells := 0, slots := 0, locals := 67 } : Room) s m args below meth c H locs 0 0 (EndI K A (fun _ => wM K a M0) r0 below args s ({ frames := 3, cells := 0, slots := 0, locals := 67 } : Room)) (F0 m 109 ls []) := by
    intro n109
    induction n109 with
    | zero => intro x2 x4 x5 x6 M H locs ls h; exact absurd h (by simp [f_X12_join_109])
    | succ n109 ih109 =>
      intro x2 x4 x5 x6 M H locs ls h hW hl
      rw [f_X12_join_109] at h
      refine lv_iload hx hb dX12_join_109 (lv_at hl 4 rfl) ?_
      refine lv_aload_n hx hb dX12_join_111 rfl (lv_at hl 0 rfl) ?_
      refine g_X12_170 hF hW dX12_join_112 ?_
      refine lv_icmp_ge (tgt := 156) hx hb dX12_join_115 (by decide) (fun q39 => ?_) (fun q39 => ?_)
      · have h := ifp q39 h
        refine lv_aload_n hx hb dX12_join_156 rfl (lv_at hl 0 rfl) ?_
        obtain ⟨r40, M41, hc42, h⟩ := bd_some h
        refine cV_i (ci := 12) (q0 := 0) (rest := []) hF hW mw_X12_324 (c_X12_turned l K a hc42) ⟨Nat.le_of_ble_eq_true rfl, Nat.le_of_ble_eq_true rfl⟩ rfl rfl (pM_0 K a _) rfl hl.1 rfl (Nat.le_of_ble_eq_true rfl) dX12_join_157 ⟨Nat.le_of_ble_eq_true rfl, Nat.le_of_ble_eq_true rfl⟩ (fun _ H locs hW => ?_)
        obtain ⟨rfl, rfl⟩ := Prod.mk.inj (Option.some.inj h)
        exact rt_i hF hr hk rfl (fun _ => 0) hW rfl dX12_join_160
      · have h := ifn q39 h
        refine lv_aload_n hx hb dX12_join_118 rfl (lv_at hl 0 rfl) ?_
        refine lv_iload hx hb dX12_join_119 (lv_at hl 4 rfl) ?_
        refine lv_iload_n hx hb dX12_join_121 rfl (lv_at hl 1 rfl) ?_
        obtain ⟨r43, hc45, h⟩ := bq_some h
        refine cV_i (ci := 12) (q0 := 0) (rest := []) hF hW mw_X12_311 (c_X12_isActIn l K a hc45) ⟨Nat.le_of_ble_eq_true rfl, Nat.le_of_ble_eq_true rfl⟩ rfl rfl (pM_0 K a _) rfl hl.1 rfl (Nat.le_of_ble_eq_true rfl) dX12_join_122 ⟨Nat.le_of_ble_eq_true rfl, Nat.le_of_ble_eq_true rfl⟩ (fun _ H locs hW => ?_)
        refine lz_eq (tgt := 150) hx hb dX12_join_125 (by decide) (fun q46 => ?_) (fun q46 => ?_)
        · have h := ifn q46 h
          refine lv_iinc (v := (x6 + 1)) (lv' := [(6, .int (x6 + 1)), (0, .ref (a 0)), (2, .int x2), (4, .int x4), (5, .int x5)]) hx hb dX12_join_150 hl (k := 4) rfl rfl (by decide) rfl (fun ls hl => ?_)
          refine lv_goto (tgt := 109) hx hb dX12_join_153 (by decide) ?_
          exact ih109 x2 x4 x5 (x6 + 1) _ _ _ _ h hW (lv_sub hl [1, 2, 3, 4, 0] rfl)
        · have h := ifp q46 h
          refine lv_aload_n hx hb dX12_join_128 rfl (lv_at hl 0 rfl) ?_
          refine g_X12_102 hF hW dX12_join_129 ?_
          refine lv_iload hx hb dX12_join_132 (lv_at hl 4 rfl) ?_
          refine lv_aload_n hx hb dX12_join_134 rfl (lv_at hl 0 rfl) ?_
          refine lv_iload hx hb dX12_join_135 (lv_at hl 4 rfl) ?_
          refine lv_iload hx hb dX12_join_137 (lv_at hl 2 rfl) ?_
          obtain ⟨r47, hc49, h⟩ := bq_some h
          refine cV_i (ci := 12) (q0 := 0) (rest := [.int x6, .ref (a 31)]) hF hW mw_X12_314 (c_X12_loopRow l K a hc49) ⟨Nat.le_of_ble_eq_true rfl, Nat.le_of_ble_eq_true rfl⟩ rfl rfl (pM_0 K a _) rfl hl.1 rfl (Nat.le_of_ble_eq_true rfl) dX12_join_139 ⟨Nat.le_of_ble_eq_true rfl, Nat.le_of_ble_eq_true rfl⟩ (fun _ H locs hW => ?_)
          refine lv_iconst (v := 1) hx hb dX12_join_142 (by decide) ?_
          refine lv_isub hx hb dX12_join_143 ?_
          obtain ⟨r50, hc52, h⟩ := bq_some h
          refine cS_i (rest := [.ref (a 31)]) hF hW mw_X12_295 (c_X12_rowAt l K hc52) ⟨Nat.le_of_ble_eq_true rfl, Nat.le_of_ble_eq_true rfl⟩ rfl hl.1 rfl (Nat.le_of_ble_eq_true rfl) dX12_join_144 ⟨Nat.le_of_ble_eq_true rfl, Nat.le_of_ble_eq_true rfl⟩ (fun _ H locs hW => ?_)
          refine lv_iload hx hb dX12_join_147 (lv_at hl 3 rfl) ?_
          obtain ⟨q53, h⟩ := ck_some h
          refine w_ist hF hW (pM_31 K a _) q53 (uM_31 K a _ _ _) dX12_join_149 (fun H locs hW => ?_)
          refine lv_iinc (v := (x6 + 1)) (lv' := [(6, .int (x6 + 1)), (0, .ref (a 0)), (2, .int x2), (4, .int x4), (5, .int x5)]) hx hb dX12_join_150 hl (k := 4) rfl rfl (by decide) rfl (fun ls hl => ?_)
          refine lv_goto (tgt := 109) hx hb dX12_join_153 (by decide) ?_
          exact ih109 x2 x4 x5 (x6 + 1) _ _ _ _ h hW (lv_sub hl [1, 2, 3, 4, 0] rfl)
  unfold f_X12_join at h
  refine lv_aload_n hx hb dX12_join_0 rfl (lv_at hl 0 rfl) ?_
  refine lv_iload_n hx hb dX12_join_1 rfl (lv_at hl 1 rfl) ?_
  obtain ⟨r1, hc3, h⟩ := bq_some h
  refine cV_i (ci := 12) (q0 := 0) (rest := []) hF hW mw_X12_177 (c_X12_isNode l K a hc3) ⟨Nat.le_of_ble_eq_true rfl, Nat.le_of_ble_eq_true rfl⟩ rfl rfl (pM_0 K a _) rfl hl.1 rfl (Nat.le_of_ble_eq_true rfl) dX12_join_2 ⟨Nat.le_of_ble_eq_true rfl, Nat.le_of_ble_eq_true rfl⟩ (fun _ H locs hW => ?_)
  refine lz_eq (tgt := 16) hx hb dX12_join_5 (by decide) (fun q4 => ?_) (fun q4 => ?_)
  · have h := ifn q4 h
    refine lv_iconst (v := (-1)) hx hb dX12_join_16 (by decide) ?_
    obtain ⟨rfl, rfl⟩ := Prod.mk.inj (Option.some.inj h)
    exact rt_i hF hr hk rfl (fun _ => 0) hW rfl dX12_join_17
  · have h := ifp q4 h
    refine lv_aload_n hx hb dX12_join_8 rfl (lv_at hl 0 rfl) ?_
    refine lv_iload_n hx hb dX12_join_9 rfl (lv_at hl 2 rfl) ?_
    obtain ⟨r5, hc7, h⟩ := bq_some h
    refine cV_i (ci := 12) (q0 := 0) (rest := []) hF hW mw_X12_177 (c_X12_isNode l K a hc7) ⟨Nat.le_of_ble_eq_true rfl, Nat.le_of_ble_eq_true rfl⟩ rfl rfl (pM_0 K a _) rfl hl.1 rfl (Nat.le_of_ble_eq_true rfl) dX12_join_10 ⟨Nat.le_of_ble_eq_true rfl, Nat.le_of_ble_eq_true rfl⟩ (fun _ H locs hW => ?_)
    refine lz_ne (tgt := 18) hx hb dX12_join_13 (by decide) (fun q8 => ?_) (fun q8 => ?_)
    · have h := ifp q8 h
      refine lv_aload_n hx hb dX12_join_18 rfl (lv_at hl 0 rfl) ?_
      refine lv_iload_n hx hb dX12_join_19 rfl (lv_at hl 1 rfl) ?_
      obtain ⟨r9, hc11, h⟩ := bq_some h
      refine cV_i (ci := 12) (q0 := 0) (rest := []) hF hW mw_X12_173 (c_X12_isLoop l K a hc11) ⟨Nat.le_of_ble_eq_true rfl, Nat.le_of_ble_eq_true rfl⟩ rfl rfl (pM_0 K a _) rfl hl.1 rfl (Nat.le_of_ble_eq_true rfl) dX12_join_20 ⟨Nat.le_of_ble_eq_true rfl, Nat.le_of_ble_eq_true rfl⟩ (fun _ H locs hW => ?_)
      refine lz_eq (tgt := 34) hx hb dX12_join_23 (by decide) (fun q12 => ?_) (fun q12 => ?_)
      · have h := ifn q12 h
        exact J34 _ _ _ _ h hW (lv_sub hl [0] rfl)
      · have h := ifp q12 h
        refine lv_aload_n hx hb dX12_join_26 rfl (lv_at hl 0 rfl) ?_
        refine lv_iload_n hx hb dX12_join_27 rfl (lv_at hl 2 rfl) ?_
        obtain ⟨r13, hc15, h⟩ := bq_some h
        refine cV_i (ci := 12) (q0 := 0) (rest := []) hF hW mw_X12_173 (c_X12_isLoop l K a hc15) ⟨Nat.le_of_ble_eq_true rfl, Nat.le_of_ble_eq_true rfl⟩ rfl rfl (pM_0 K a _) rfl hl.1 rfl (Nat.le_of_ble_eq_true rfl) dX12_join_28 ⟨Nat.le_of_ble_eq_true rfl, Nat.le_of_ble_eq_true rfl⟩ (fun _ H locs hW => ?_)
        refine lz_ne (tgt := 40) hx hb dX12_join_31 (by decide) (fun q16 => ?_) (fun q16 => ?_)
        · have h := ifp q16 h
          refine lv_aload_n hx hb dX12_join_40 rfl (lv_at hl 0 rfl) ?_
          refine lv_iload_n hx hb dX12_join_41 rfl (lv_at hl 1 rfl) ?_
          obtain ⟨r17, hc19, h⟩ := bq_some h
          refine cV_i (ci := 12) (q0 := 0) (rest := []) hF hW mw_X12_347 (c_X12_firstActIn l K a hc19) ⟨Nat.le_of_ble_eq_true rfl, Nat.le_of_ble_eq_true rfl⟩ rfl rfl (pM_0 K a _) rfl hl.1 rfl (Nat.le_of_ble_eq_true rfl) dX12_join_42 ⟨Nat.le_of_ble_eq_true rfl, Nat.le_of_ble_eq_true rfl⟩ (fun _ H locs hW => ?_)
          refine lv_istore_n (lv' := [(3, .int r17), (0, .ref (a 0)), (1, .int x1), (2, .int x2)]) hx hb dX12_join_45 rfl hl (by decide) rfl (fun ls hl => ?_)
          refine lv_aload_n hx hb dX12_join_46 rfl (lv_at hl 1 rfl) ?_
          refine g_X12_29 hF hW dX12_join_47 ?_
          refine lv_iload_n hx hb dX12_join_50 rfl (lv_at hl 2 rfl) ?_
          obtain ⟨q20, h⟩ := ck_some h
          refine w_ild hF hW (pM_7 K a _) q20 dX12_join_51 ?_
          refine lv_aload_n hx hb dX12_join_52 rfl (lv_at hl 1 rfl) ?_
          refine g_X12_29 hF hW dX12_join_53 ?_
          refine lv_iload_n hx hb dX12_join_56 rfl (lv_at hl 3 rfl) ?_
          obtain ⟨q21, h⟩ := ck_some h
          refine w_ild hF hW (pM_7 K a _) q21 dX12_join_57 ?_
          refine lv_icmp_ne (tgt := 72) hx hb dX12_join_58 (by decide) (fun q22 => ?_) (fun q22 => ?_)
          · have h := ifn q22 h
            refine lv_iconst (v := (-1)) hx hb dX12_join_72 (by decide) ?_
            obtain ⟨rfl, rfl⟩ := Prod.mk.inj (Option.some.inj h)
            exact rt_i hF hr hk rfl (fun _ => 0) hW rfl dX12_join_73
          · have h := ifp q22 h
            refine lv_iload_n hx hb dX12_join_61 rfl (lv_at hl 3 rfl) ?_
            refine lv_iload_n hx hb dX12_join_62 rfl (lv_at hl 2 rfl) ?_
            refine lv_icmp_le (tgt := 72) hx hb dX12_join_63 (by decide) (fun q23 => ?_) (fun q23 => ?_)
            · have h := ifp q23 h
              refine lv_iconst (v := (-1)) hx hb dX12_join_72 (by decide) ?_
              obtain ⟨rfl, rfl⟩ := Prod.mk.inj (Option.some.inj h)
              exact rt_i hF hr hk rfl (fun _ => 0) hW rfl dX12_join_73
            · have h := ifn q23 h
              refine lv_iload_n hx hb dX12_join_66 rfl (lv_at hl 0 rfl) ?_
              refine lv_bipush (v := (-9)) hx hb dX12_join_67 (by decide) ?_
              refine lv_icmp_ne (tgt := 74) hx hb dX12_join_69 (by decide) (fun q24 => ?_) (fun q24 => ?_)
              · have h := ifn q24 h
                refine lv_aload_n hx hb dX12_join_74 rfl (lv_at hl 1 rfl) ?_
                refine g_X12_32 hF hW dX12_join_75 ?_
                refine lv_iload_n hx hb dX12_join_78 rfl (lv_at hl 2 rfl) ?_
                obtain ⟨q25, h⟩ := ck_some h
                refine w_ild hF hW (pM_8 K a _) q25 dX12_join_79 ?_
                refine lv_istore (lv' := [(4, .int (M.1 8 x1.toNatClampNeg)), (3, .int r17), (0, .ref (a 0)), (1, .int x1), (2, .int x2)]) hx hb dX12_join_80 hl (by decide) rfl (fun ls hl => ?_)
                refine lv_aload_n hx hb dX12_join_82 rfl (lv_at hl 2 rfl) ?_
                obtain ⟨M27, hc28, h⟩ := bm_some h
                refine cV_v (ci := 12) (q0 := 0) (rest := []) hF hW mw_X12_317 (c_X12_keepTried l K a hc28) ⟨Nat.le_of_ble_eq_true rfl, Nat.le_of_ble_eq_true rfl⟩ rfl rfl (pM_0 K a _) rfl hl.1 rfl (Nat.le_of_ble_eq_true rfl) dX12_join_83 ⟨Nat.le_of_ble_eq_true rfl, Nat.le_of_ble_eq_true rfl⟩ (fun _ H locs hW => ?_)
                refine lv_aload_n hx hb dX12_join_86 rfl (lv_at hl 2 rfl) ?_
                refine g_X12_102 hF hW dX12_join_87 ?_
                refine lv_iload_n hx hb dX12_join_90 rfl (lv_at hl 1 rfl) ?_
                refine lv_aload_n hx hb dX12_join_91 rfl (lv_at hl 2 rfl) ?_
                refine lv_iload_n hx hb dX12_join_92 rfl (lv_at hl 1 rfl) ?_
                refine lv_iload hx hb dX12_join_93 (lv_at hl 0 rfl) ?_
                obtain ⟨r29, hc31, h⟩ := bq_some h
                refine cV_i (ci := 12) (q0 := 0) (rest := [.int r17, .ref (a 31)]) hF hW mw_X12_314 (c_X12_loopRow l K a hc31) ⟨Nat.le_of_ble_eq_true rfl, Nat.le_of_ble_eq_true rfl⟩ rfl rfl (pM_0 K a _) rfl hl.1 rfl (Nat.le_of_ble_eq_true rfl) dX12_join_95 ⟨Nat.le_of_ble_eq_true rfl, Nat.le_of_ble_eq_true rfl⟩ (fun _ H locs hW => ?_)
                refine lv_iconst (v := 1) hx hb dX12_join_98 (by decide) ?_
                refine lv_isub hx hb dX12_join_99 ?_
                obtain ⟨r32, hc34, h⟩ := bq_some h
                refine cS_i (rest := [.ref (a 31)]) hF hW mw_X12_295 (c_X12_rowAt l K hc34) ⟨Nat.le_of_ble_eq_true rfl, Nat.le_of_ble_eq_true rfl⟩ rfl hl.1 rfl (Nat.le_of_ble_eq_true rfl) dX12_join_100 ⟨Nat.le_of_ble_eq_true rfl, Nat.le_of_ble_eq_true rfl⟩ (fun _ H locs hW => ?_)
                obtain ⟨q35, h⟩ := ck_some h
                refine w_ild hF hW (pM_31 K a _) q35 dX12_join_103 ?_
                refine lv_istore (lv' := [(5, .int (M27.1 31 r32.toNatClampNeg)), (4, .int (M.1 8 x1.toNatClampNeg)), (3, .int r17), (0, .ref (a 0)), (1, .int x1), (2, .int x2)]) hx hb dX12_join_104 hl (by decide) rfl (fun ls hl => ?_)
                refine lv_iconst (v := 0) hx hb dX12_join_106 (by decide) ?_
                refine lv_istore (lv' := [(6, .int 0), (5, .int (M27.1 31 r32.toNatClampNeg)), (4, .int (M.1 8 x1.toNatClampNeg)), (3, .int r17), (0, .ref (a 0)), (1, .int x1), (2, .int x2)]) hx hb dX12_join_107 hl (by decide) rfl (fun ls hl => ?_)
                exact J109 100000 x2 (M.1 8 x1.toNatClampNeg) (M27.1 31 r32.toNatClampNeg) 0 _ _ _ _ h hW (lv_sub hl [4, 6, 2, 1, 0] rfl)
              · have h := ifp q24 h
                refine lv_iconst (v := (-1)) hx hb dX12_join_72 (by decide) ?_
                obtain ⟨rfl, rfl⟩ := Prod.mk.inj (Option.some.inj h)
                exact rt_i hF hr hk rfl (fun _ => 0) hW rfl dX12_join_73
        · have h := ifn q16 h
          exact J34 _ _ _ _ h hW (lv_sub hl [0] rfl)
    · have h := ifn q8 h
      refine lv_iconst (v := (-1)) hx hb dX12_join_16 (by decide) ?_
      obtain ⟨rfl, rfl⟩ := Prod.mk.inj (Option.some.inj h)
      exact rt_i hF hr hk rfl (fun _ => 0) hW rfl dX12_join_17
set_option maxRecDepth 100000 in
set_option maxHeartbeats 1000000 in
theorem c_X12_undo (l : Launch) (K : Kx) (a : Nat → Nat) {M M0 : Mem}  {r0 : Int32} (h : f_X12_undo M = some (r0, M0)) : CMi l yX12_undo cX12_undo 2 (some .int) ({ frames := 0, cells := 0, slots := 0, locals := 0 } : Room) K [.ref (a 0)] (wM K a M) (fun _ => wM K a M0) r0 := by
  refine cs_i (by decide +kernel) (Nat.le_of_ble_eq_true rfl) ?_
  intro p e s m args below meth c A ls hF hr hk hnm hW hl
  have hx := hF.1
  have hb := hF.2.1
  have hl : lv_has ls 2 [(0, .ref (a 0))] := hl
  obtain ⟨H, hH⟩ : ∃ z, z = s.heap := ⟨_, rfl⟩
  rw [← hH] at hW ⊢
  have J22 : ∀ (n22 : Nat) (x1 : Int32) (M : Mem) (H : Heap) (locs : List Loc) (ls : Array Slot), f_X12_undo_22 n22 x1 M = some (r0, M0) → Wd K A s (wM K a M) H locs → lv_has ls 2 [(0, .ref (a 0)), (1, .int x1)] → W p l e ({ frames := 0, cells := 0, slots := 0, locals := 0 } : Room) s m args below meth c H locs 0 0 (EndI K A (fun _ => wM K a M0) r0 below args s ({ frames := 0, cells := 0, slots := 0, locals := 0 } : Room)) (F0 m 22 ls []) := by
    intro n22
    induction n22 with
    | zero => intro x1 M H locs ls h; exact absurd h (by simp [f_X12_undo_22])
    | succ n22 ih22 =>
      have J56 : ∀ (n56 : Nat) (x1 : Int32) (M : Mem) (H : Heap) (locs : List Loc) (ls : Array Slot), f_X12_undo_56 n56 x1 M = some (r0, M0) → Wd K A s (wM K a M) H locs → lv_has ls 2 [(0, .ref (a 0)), (1, .int x1)] → W p l e ({ frames := 0, cells := 0, slots := 0, locals := 0 } : Room) s m args below meth c H locs 0 0 (EndI K A (fun _ => wM K a M0) r0 below args s ({ frames := 0, cells := 0, slots := 0, locals := 0 } : Room)) (F0 m 56 ls []) := by
        intro n56
        induction n56 with
        | zero => intro x1 M H locs ls h; exact absurd h (by simp [f_X12_undo_56])
        | succ n56 ih56 =>
          intro x1 M H locs ls h hW hl
          rw [f_X12_undo_56] at h
          refine lv_iload_n hx hb dX12_undo_56 rfl (lv_at hl 1 rfl) ?_
          refine lv_sipush (v := 4480) hx hb dX12_undo_57 (by decide) ?_
          refine lv_icmp_ge (tgt := 90) hx hb dX12_undo_60 (by decide) (fun q5 => ?_) (fun q5 => ?_)
          · have h := ifp q5 h
            refine lv_aload_n hx hb dX12_undo_90 rfl (lv_at hl 0 rfl) ?_
            refine g_X12_298 hF hW dX12_undo_91 ?_
            obtain ⟨rfl, rfl⟩ := Prod.mk.inj (Option.some.inj h)
            exact rt_i hF hr hk rfl (fun _ => 0) hW rfl dX12_undo_94
          · have h := ifn q5 h
            refine lv_aload_n hx hb dX12_undo_63 rfl (lv_at hl 0 rfl) ?_
            refine g_X12_102 hF hW dX12_undo_64 ?_
            refine lv_iload_n hx hb dX12_undo_67 rfl (lv_at hl 1 rfl) ?_
            refine lv_aload_n hx hb dX12_undo_68 rfl (lv_at hl 0 rfl) ?_
            refine g_X12_109 hF hW dX12_undo_69 ?_
            refine lv_sipush (v := 4480) hx hb dX12_undo_72 (by decide) ?_
            refine lv_aload_n hx hb dX12_undo_75 rfl (lv_at hl 0 rfl) ?_
            refine g_X12_298 hF hW dX12_undo_76 ?_
            refine lv_imul hx hb dX12_undo_79 ?_
            refine lv_iload_n hx hb dX12_undo_80 rfl (lv_at hl 1 rfl) ?_
            refine lv_iadd hx hb dX12_undo_81 ?_
            obtain ⟨q6, h⟩ := ck_some h
            refine w_ild hF hW (pM_33 K a _) q6 dX12_undo_82 ?_
            obtain ⟨q7, h⟩ := ck_some h
            refine w_ist hF hW (pM_31 K a _) q7 (uM_31 K a _ _ _) dX12_undo_83 (fun H locs hW => ?_)
            refine lv_iinc (v := (x1 + 1)) (lv' := [(1, .int (x1 + 1)), (0, .ref (a 0))]) hx hb dX12_undo_84 hl (k := 1) rfl rfl (by decide) rfl (fun ls hl => ?_)
            refine lv_goto (tgt := 56) hx hb dX12_undo_87 (by decide) ?_
            exact ih56 (x1 + 1) _ _ _ _ h hW (lv_sub hl [1, 0] rfl)
      intro x1 M H locs ls h hW hl
      rw [f_X12_undo_22] at h
      refine lv_iload_n hx hb dX12_undo_22 rfl (lv_at hl 1 rfl) ?_
      refine lv_bipush (v := 40) hx hb dX12_undo_23 (by decide) ?_
      refine lv_icmp_ge (tgt := 54) hx hb dX12_undo_25 (by decide) (fun q2 => ?_) (fun q2 => ?_)
      · have h := ifp q2 h
        refine lv_iconst (v := 0) hx hb dX12_undo_54 (by decide) ?_
        refine lv_istore_n (lv' := [(1, .int 0), (0, .ref (a 0))]) hx hb dX12_undo_55 rfl hl (by decide) rfl (fun ls hl => ?_)
        exact J56 100000 0 _ _ _ _ h hW (lv_sub hl [1, 0] rfl)
      · have h := ifn q2 h
        refine lv_aload_n hx hb dX12_undo_28 rfl (lv_at hl 0 rfl) ?_
        refine g_X12_99 hF hW dX12_undo_29 ?_
        refine lv_iload_n hx hb dX12_undo_32 rfl (lv_at hl 1 rfl) ?_
        refine lv_aload_n hx hb dX12_undo_33 rfl (lv_at hl 0 rfl) ?_
        refine g_X12_105 hF hW dX12_undo_34 ?_
        refine lv_bipush (v := 40) hx hb dX12_undo_37 (by decide) ?_
        refine lv_aload_n hx hb dX12_undo_39 rfl (lv_at hl 0 rfl) ?_
        refine g_X12_298 hF hW dX12_undo_40 ?_
        refine lv_imul hx hb dX12_undo_43 ?_
        refine lv_iload_n hx hb dX12_undo_44 rfl (lv_at hl 1 rfl) ?_
        refine lv_iadd hx hb dX12_undo_45 ?_
        obtain ⟨q3, h⟩ := ck_some h
        refine w_ild hF hW (pM_32 K a _) q3 dX12_undo_46 ?_
        obtain ⟨q4, h⟩ := ck_some h
        refine w_ist hF hW (pM_30 K a _) q4 (uM_30 K a _ _ _) dX12_undo_47 (fun H locs hW => ?_)
        refine lv_iinc (v := (x1 + 1)) (lv' := [(1, .int (x1 + 1)), (0, .ref (a 0))]) hx hb dX12_undo_48 hl (k := 1) rfl rfl (by decide) rfl (fun ls hl => ?_)
        refine lv_goto (tgt := 22) hx hb dX12_undo_51 (by decide) ?_
        exact ih22 (x1 + 1) _ _ _ _ h hW (lv_sub hl [1, 0] rfl)
  unfold f_X12_undo at h
  refine lv_aload_n hx hb dX12_undo_0 rfl (lv_at hl 0 rfl) ?_
  refine g_X12_298 hF hW dX12_undo_1 ?_
  refine lv_if_ne (tgt := 10) hx hb dX12_undo_4 (by decide) (fun q1 => ?_) (fun q1 => ?_)
  · have h := ifn q1 h
    refine lv_aload_n hx hb dX12_undo_10 rfl (lv_at hl 0 rfl) ?_
    refine lv_dup hx hb dX12_undo_11 rfl ?_
    refine g_X12_298 hF hW dX12_undo_12 ?_
    refine lv_iconst (v := 1) hx hb dX12_undo_15 (by decide) ?_
    refine lv_isub hx hb dX12_undo_16 ?_
    refine s_X12_298 (x := ((M.1 109 0) - 1)) hF hW dX12_undo_17 (fun H locs hW => ?_)
    refine lv_iconst (v := 0) hx hb dX12_undo_20 (by decide) ?_
    refine lv_istore_n (lv' := [(1, .int 0), (0, .ref (a 0))]) hx hb dX12_undo_21 rfl hl (by decide) rfl (fun ls hl => ?_)
    exact J22 100000 0 _ _ _ _ h hW (lv_sub hl [1, 0] rfl)
  · have h := ifp q1 h
    refine lv_bipush (v := (-4)) hx hb dX12_undo_7 (by decide) ?_
    obtain ⟨rfl, rfl⟩ := Prod.mk.inj (Option.some.inj h)
    exact rt_i hF hr hk rfl (fun _ => 0) hW rfl dX12_undo_9
set_option maxRecDepth 100000 in
set_option maxHeartbeats 1000000 in
theorem c_X12_order (l : Launch) (K : Kx) (a : Nat → Nat) {M M0 : Mem} {x1 : Int32} {x2 : Int32} {x3 : Int32} {r0 : Int32} (h : f_X12_order M x1 x2 x3 = some (r0, M0)) : CMi l yX12_order cX12_order 4 (some .int) ({ frames := 2, cells := 0, slots := 0, locals := 46 } : Room) K [.ref (a 0), .int x1, .int x2, .int x3] (wM K a M) (fun _ => wM K a M0) r0 := by
  refine cs_i (by decide +kernel) (Nat.le_of_ble_eq_true rfl) ?_
  intro p e s m args below meth c A ls hF hr hk hnm hW hl
  have hx := hF.1
  have hb := hF.2.1
  have hl : lv_has ls 4 [(0, .ref (a 0)), (1, .int x1), (2, .int x2), (3, .int x3)] := hl
  obtain ⟨H, hH⟩ : ∃ z, z = s.heap := ⟨_, rfl⟩
  rw [← hH] at hW ⊢
  unfold f_X12_order at h
  refine lv_aload_n hx hb dX12_order_0 rfl (lv_at hl 0 rfl) ?_
  refine lv_iload_n hx hb dX12_order_1 rfl (lv_at hl 1 rfl) ?_
  obtain ⟨r1, hc3, h⟩ := bq_some h
  refine cV_i (ci := 12) (q0 := 0) (rest := []) hF hW mw_X12_177 (c_X12_isNode l K a hc3) ⟨Nat.le_of_ble_eq_true rfl, Nat.le_of_ble_eq_true rfl⟩ rfl rfl (pM_0 K a _) rfl hl.1 rfl (Nat.le_of_ble_eq_true rfl) dX12_order_2 ⟨Nat.le_of_ble_eq_true rfl, Nat.le_of_ble_eq_true rfl⟩ (fun _ H locs hW => ?_)
  refine lz_eq (tgt := 20) hx hb dX12_order_5 (by decide) (fun q4 => ?_) (fun q4 => ?_)
  · have h := ifn q4 h
    refine lv_iconst (v := (-1)) hx hb dX12_order_20 (by decide) ?_
    obtain ⟨rfl, rfl⟩ := Prod.mk.inj (Option.some.inj h)
    exact rt_i hF hr hk rfl (fun _ => 0) hW rfl dX12_order_21
  · have h := ifp q4 h
    refine lv_iload_n hx hb dX12_order_8 rfl (lv_at hl 3 rfl) ?_
    refine lv_i2l hx hb dX12_order_9 rfl ?_
    refine lv_lconst (v := 0) hx hb dX12_order_10 (by decide) ?_
    refine lv_ldc2 hx hb hF.2.2.2.1 (hF.2.2.1 _ kl_X12_350) dX12_order_11 ?_
    obtain ⟨r5, hc7, h⟩ := bq_some h
    refine cS_i (rest := []) hF hW mw_X12_154 (c_X12_in l K hc7) ⟨Nat.le_of_ble_eq_true rfl, Nat.le_of_ble_eq_true rfl⟩ rfl hl.1 rfl (Nat.le_of_ble_eq_true rfl) dX12_order_14 ⟨Nat.le_of_ble_eq_true rfl, Nat.le_of_ble_eq_true rfl⟩ (fun _ H locs hW => ?_)
    refine lz_ne (tgt := 22) hx hb dX12_order_17 (by decide) (fun q8 => ?_) (fun q8 => ?_)
    · have h := ifp q8 h
      refine lv_aload_n hx hb dX12_order_22 rfl (lv_at hl 0 rfl) ?_
      refine g_X12_26 hF hW dX12_order_23 ?_
      refine lv_iload_n hx hb dX12_order_26 rfl (lv_at hl 1 rfl) ?_
      obtain ⟨q9, h⟩ := ck_some h
      refine w_ild hF hW (pM_6 K a _) q9 dX12_order_27 ?_
      refine lv_iconst (v := 3) hx hb dX12_order_28 (by decide) ?_
      refine lv_icmp_eq (tgt := 38) hx hb dX12_order_29 (by decide) (fun q10 => ?_) (fun q10 => ?_)
      · have h := ifp q10 h
        refine lv_iload_n hx hb dX12_order_38 rfl (lv_at hl 2 rfl) ?_
        refine lv_i2l hx hb dX12_order_39 rfl ?_
        refine lv_lconst (v := 0) hx hb dX12_order_40 (by decide) ?_
        refine lv_aload_n hx hb dX12_order_41 rfl (lv_at hl 0 rfl) ?_
        refine g_X12_99 hF hW dX12_order_42 ?_
        refine lv_iload_n hx hb dX12_order_45 rfl (lv_at hl 1 rfl) ?_
        obtain ⟨q11, h⟩ := ck_some h
        refine w_ild hF hW (pM_30 K a _) q11 dX12_order_46 ?_
        refine lv_iconst (v := 1) hx hb dX12_order_47 (by decide) ?_
        refine lv_isub hx hb dX12_order_48 ?_
        refine lv_i2l hx hb dX12_order_49 rfl ?_
        obtain ⟨r12, hc14, h⟩ := bq_some h
        refine cS_i (rest := []) hF hW mw_X12_154 (c_X12_in l K hc14) ⟨Nat.le_of_ble_eq_true rfl, Nat.le_of_ble_eq_true rfl⟩ rfl hl.1 rfl (Nat.le_of_ble_eq_true rfl) dX12_order_50 ⟨Nat.le_of_ble_eq_true rfl, Nat.le_of_ble_eq_true rfl⟩ (fun _ H locs hW => ?_)
        refine lz_ne (tgt := 59) hx hb dX12_order_53 (by decide) (fun q15 => ?_) (fun q15 => ?_)
        · have h := ifp q15 h
          refine lv_aload_n hx hb dX12_order_59 rfl (lv_at hl 0 rfl) ?_
          refine g_X12_102 hF hW dX12_order_60 ?_
          refine lv_iload_n hx hb dX12_order_63 rfl (lv_at hl 1 rfl) ?_
          refine lv_iload_n hx hb dX12_order_64 rfl (lv_at hl 2 rfl) ?_
          obtain ⟨r16, hc18, h⟩ := bq_some h
          refine cS_i (rest := [.ref (a 31)]) hF hW mw_X12_295 (c_X12_rowAt l K hc18) ⟨Nat.le_of_ble_eq_true rfl, Nat.le_of_ble_eq_true rfl⟩ rfl hl.1 rfl (Nat.le_of_ble_eq_true rfl) dX12_order_65 ⟨Nat.le_of_ble_eq_true rfl, Nat.le_of_ble_eq_true rfl⟩ (fun _ H locs hW => ?_)
          refine lv_iload_n hx hb dX12_order_68 rfl (lv_at hl 3 rfl) ?_
          refine lv_iadd hx hb dX12_order_69 ?_
          obtain ⟨q19, h⟩ := ck_some h
          refine w_ild hF hW (pM_31 K a _) q19 dX12_order_70 ?_
          refine lv_iload_n hx hb dX12_order_71 rfl (lv_at hl 3 rfl) ?_
          refine lv_iconst (v := 5) hx hb dX12_order_72 (by decide) ?_
          refine lv_icmp_ge (tgt := 82) hx hb dX12_order_73 (by decide) (fun q20 => ?_) (fun q20 => ?_)
          · have h := ifp q20 h
            refine lv_iconst (v := 0) hx hb dX12_order_82 (by decide) ?_
            refine lv_iadd hx hb dX12_order_83 ?_
            obtain ⟨rfl, rfl⟩ := Prod.mk.inj (Option.some.inj h)
            exact rt_i hF hr hk rfl (fun _ => 0) hW rfl dX12_order_84
          · have h := ifn q20 h
            refine lv_ldcw hx hb hF.2.2.2.1 (hF.2.2.1 _ ki_X12_352) dX12_order_76 ?_
            refine lv_goto (tgt := 83) hx hb dX12_order_79 (by decide) ?_
            refine lv_iadd hx hb dX12_order_83 ?_
            obtain ⟨rfl, rfl⟩ := Prod.mk.inj (Option.some.inj h)
            exact rt_i hF hr hk rfl (fun _ => 0) hW rfl dX12_order_84
        · have h := ifn q15 h
          refine lv_bipush (v := (-9)) hx hb dX12_order_56 (by decide) ?_
          obtain ⟨rfl, rfl⟩ := Prod.mk.inj (Option.some.inj h)
          exact rt_i hF hr hk rfl (fun _ => 0) hW rfl dX12_order_58
      · have h := ifn q10 h
        refine lv_aload_n hx hb dX12_order_32 rfl (lv_at hl 0 rfl) ?_
        refine lv_iconst (v := 3) hx hb dX12_order_33 (by decide) ?_
        obtain ⟨r21, M22, hc23, h⟩ := bd_some h
        refine cV_i (ci := 12) (q0 := 0) (rest := []) hF hW mw_X12_207 (c_X12_meets l K a hc23) ⟨Nat.le_of_ble_eq_true rfl, Nat.le_of_ble_eq_true rfl⟩ rfl rfl (pM_0 K a _) rfl hl.1 rfl (Nat.le_of_ble_eq_true rfl) dX12_order_34 ⟨Nat.le_of_ble_eq_true rfl, Nat.le_of_ble_eq_true rfl⟩ (fun _ H locs hW => ?_)
        obtain ⟨rfl, rfl⟩ := Prod.mk.inj (Option.some.inj h)
        exact rt_i hF hr hk rfl (fun _ => 0) hW rfl dX12_order_37
    · have h := ifn q8 h
      refine lv_iconst (v := (-1)) hx hb dX12_order_20 (by decide) ?_
      obtain ⟨rfl, rfl⟩ := Prod.mk.inj (Option.some.inj h)
      exact rt_i hF hr hk rfl (fun _ => 0) hW rfl dX12_order_21
set_option maxRecDepth 100000 in
set_option maxHeartbeats 1000000 in
theorem c_X12_cutDown (l : Launch) (K : Kx) {ws : va_W} {x0 : Int64} {x2 : Int32} {r0 : Int64} (h : f_X12_cutDown x0 x2 = some r0) : CMl l yX12_cutDown cX12_cutDown 5 ({ frames := 0, cells := 0, slots := 0, locals := 0 } : Room) K [.long x0, .int x2] ws (fun _ => ws) r0 := by
  refine cs_l (by decide +kernel) (Nat.le_of_ble_eq_true rfl) ?_
  intro p e s m args below meth c A ls hF hr hk hnm hW hl
  have hx := hF.1
  have hb := hF.2.1
  have hl : lv_has ls 5 [(0, .long x0), (2, .int x2)] := hl
  obtain ⟨H, hH⟩ : ∃ z, z = s.heap := ⟨_, rfl⟩
  rw [← hH] at hW ⊢
  unfold f_X12_cutDown at h
  refine lv_lload_n hx hb dX12_cutDown_0 rfl (lv_at hl 0 rfl) ?_
  refine lv_iload_n hx hb dX12_cutDown_1 rfl (lv_at hl 1 rfl) ?_
  refine lv_i2l hx hb dX12_cutDown_2 rfl ?_
  obtain ⟨q1, h⟩ := nzL_some h
  refine lv_ldiv hx hb dX12_cutDown_3 q1 ?_
  refine lv_lstore_n (lv' := [(3, .long (x0 / x2.toInt64)), (0, .long x0), (2, .int x2)]) hx hb dX12_cutDown_4 rfl hl (by decide) rfl (fun ls hl => ?_)
  refine lv_lload_n hx hb dX12_cutDown_5 rfl (lv_at hl 1 rfl) ?_
  refine lv_iload_n hx hb dX12_cutDown_6 rfl (lv_at hl 2 rfl) ?_
  refine lv_i2l hx hb dX12_cutDown_7 rfl ?_
  obtain ⟨q2, h⟩ := nzL_some h
  refine lv_lrem hx hb dX12_cutDown_8 q2 ?_
  refine lv_lconst (v := 0) hx hb dX12_cutDown_9 (by decide) ?_
  refine ll_ge (tgt := 20) hx hb dX12_cutDown_10 dX12_cutDown_11 (by decide) (fun q3 => ?_) (fun q3 => ?_)
  · have h := ifp q3 h
    refine lv_lload_n hx hb dX12_cutDown_20 rfl (lv_at hl 0 rfl) ?_
    obtain rfl := Option.some.inj h
    exact rt_l hF hr hk (fun _ => 0) hW rfl dX12_cutDown_21
  · have h := ifn q3 h
    refine lv_lload_n hx hb dX12_cutDown_14 rfl (lv_at hl 0 rfl) ?_
    refine lv_lconst (v := 1) hx hb dX12_cutDown_15 (by decide) ?_
    refine lv_lsub hx hb dX12_cutDown_16 ?_
    refine lv_goto (tgt := 21) hx hb dX12_cutDown_17 (by decide) ?_
    obtain rfl := Option.some.inj h
    exact rt_l hF hr hk (fun _ => 0) hW rfl dX12_cutDown_21
set_option maxRecDepth 100000 in
set_option maxHeartbeats 1000000 in
theorem c_X12_isAhead (l : Launch) (K : Kx) (a : Nat → Nat) {M : Mem} {x1 : Int32} {x2 : Int32} {r0 : Bool} (h : f_X12_isAhead M x1 x2 = some r0) : CMi l yX12_isAhead cX12_isAhead 6 (some .boolean) ({ frames := 0, cells := 0, slots := 0, locals := 0 } : Room) K [.ref (a 0), .int x1, .int x2] (wM K a M) (fun _ => wM K a M) (bI r0) := by
  refine cs_i (by decide +kernel) (Nat.le_of_ble_eq_true rfl) ?_
  intro p e s m args below meth c A ls hF hr hk hnm hW hl
  have hx := hF.1
  have hb := hF.2.1
  have hl : lv_has ls 6 [(0, .ref (a 0)), (1, .int x1), (2, .int x2)] := hl
  obtain ⟨H, hH⟩ : ∃ z, z = s.heap := ⟨_, rfl⟩
  rw [← hH] at hW ⊢
  have J28 : ∀ (n28 : Nat) (x1 : Int32) (x2 : Int32) (x3 : Int32) (x4 : Int32) (x5 : Int32) (M : Mem) (H : Heap) (locs : List Loc) (ls : Array Slot), f_X12_isAhead_28 n28 x1 x2 x3 x4 x5 M = some r0 → Wd K A s (wM K a M) H locs → lv_has ls 6 [(0, .ref (a 0)), (1, .int x1), (2, .int x2), (3, .int x3), (4, .int x4), (5, .int x5)] → W p l e ({ frames := 0, cells := 0, slots := 0, locals := 0 } : Room) s m args below meth c H locs 0 0 (EndI K A (fun _ => wM K a M) (bI r0) below args s ({ frames := 0, cells := 0, slots := 0, locals := 0 } : Room)) (F0 m 28 ls []) := by
    intro n28
    induction n28 with
    | zero => intro x1 x2 x3 x4 x5 M H locs ls h; exact absurd h (by simp [f_X12_isAhead_28])
    | succ n28 ih28 =>
      have J109 : ∀ (x1 : Int32) (x2 : Int32) (x3 : Int32) (x4 : Int32) (M : Mem) (H : Heap) (locs : List Loc) (ls : Array Slot), f_X12_isAhead_109 x1 x2 x3 x4 M = some r0 → Wd K A s (wM K a M) H locs → lv_has ls 6 [(1, .int x1), (2, .int x2), (3, .int x3), (4, .int x4)] → W p l e ({ frames := 0, cells := 0, slots := 0, locals := 0 } : Room) s m args below meth c H locs 0 0 (EndI K A (fun _ => wM K a M) (bI r0) below args s ({ frames := 0, cells := 0, slots := 0, locals := 0 } : Room)) (F0 m 109 ls []) := by
        intro x1 x2 x3 x4 M H locs ls h hW hl
        unfold f_X12_isAhead_109 at h
        refine lv_iload_n hx hb dX12_isAhead_109 rfl (lv_at hl 2 rfl) ?_
        refine lv_iload hx hb dX12_isAhead_110 (lv_at hl 3 rfl) ?_
        refine lv_icmp_eq (tgt := 129) hx hb dX12_isAhead_112 (by decide) (fun q13 => ?_) (fun q13 => ?_)
        · have h := ifp q13 h
          refine lv_iload_n hx hb dX12_isAhead_129 rfl (lv_at hl 0 rfl) ?_
          refine lv_iload_n hx hb dX12_isAhead_130 rfl (lv_at hl 1 rfl) ?_
          refine lv_icmp_ge (tgt := 138) hx hb dX12_isAhead_131 (by decide) (fun q14 => ?_) (fun q14 => ?_)
          · have h := ifp q14 h
            refine lv_iconst (v := 0) hx hb dX12_isAhead_138 (by decide) ?_
            obtain rfl := Option.some.inj h
            exact rt_i hF hr hk (bI_n false) (fun _ => 0) hW rfl dX12_isAhead_139
          · have h := ifn q14 h
            refine lv_iconst (v := 1) hx hb dX12_isAhead_134 (by decide) ?_
            refine lv_goto (tgt := 139) hx hb dX12_isAhead_135 (by decide) ?_
            obtain rfl := Option.some.inj h
            exact rt_i hF hr hk (bI_n true) (fun _ => 0) hW rfl dX12_isAhead_139
        · have h := ifn q13 h
          refine lv_iload_n hx hb dX12_isAhead_115 rfl (lv_at hl 2 rfl) ?_
          refine lv_iload hx hb dX12_isAhead_116 (lv_at hl 3 rfl) ?_
          refine lv_icmp_ge (tgt := 125) hx hb dX12_isAhead_118 (by decide) (fun q15 => ?_) (fun q15 => ?_)
          · have h := ifp q15 h
            refine lv_iconst (v := 0) hx hb dX12_isAhead_125 (by decide) ?_
            refine lv_goto (tgt := 139) hx hb dX12_isAhead_126 (by decide) ?_
            obtain rfl := Option.some.inj h
            exact rt_i hF hr hk (bI_n false) (fun _ => 0) hW rfl dX12_isAhead_139
          · have h := ifn q15 h
            refine lv_iconst (v := 1) hx hb dX12_isAhead_121 (by decide) ?_
            refine lv_goto (tgt := 139) hx hb dX12_isAhead_122 (by decide) ?_
            obtain rfl := Option.some.inj h
            exact rt_i hF hr hk (bI_n true) (fun _ => 0) hW rfl dX12_isAhead_139
      intro x1 x2 x3 x4 x5 M H locs ls h hW hl
      rw [f_X12_isAhead_28] at h
      refine lv_iload hx hb dX12_isAhead_28 (lv_at hl 5 rfl) ?_
      refine lv_iload_n hx hb dX12_isAhead_30 rfl (lv_at hl 3 rfl) ?_
      refine lv_icmp_ge (tgt := 109) hx hb dX12_isAhead_31 (by decide) (fun q5 => ?_) (fun q5 => ?_)
      · have h := ifp q5 h
        exact J109 x1 x2 x3 x4 _ _ _ _ h hW (lv_sub hl [1, 2, 3, 4] rfl)
      · have h := ifn q5 h
        refine lv_iload hx hb dX12_isAhead_34 (lv_at hl 5 rfl) ?_
        refine lv_iload hx hb dX12_isAhead_36 (lv_at hl 4 rfl) ?_
        refine lv_icmp_ge (tgt := 109) hx hb dX12_isAhead_38 (by decide) (fun q6 => ?_) (fun q6 => ?_)
        · have h := ifp q6 h
          exact J109 x1 x2 x3 x4 _ _ _ _ h hW (lv_sub hl [1, 2, 3, 4] rfl)
        · have h := ifn q6 h
          refine lv_aload_n hx hb dX12_isAhead_41 rfl (lv_at hl 0 rfl) ?_
          refine g_X12_121 hF hW dX12_isAhead_42 ?_
          refine lv_bipush (v := 16) hx hb dX12_isAhead_45 (by decide) ?_
          refine lv_iload_n hx hb dX12_isAhead_47 rfl (lv_at hl 1 rfl) ?_
          refine lv_imul hx hb dX12_isAhead_48 ?_
          refine lv_iload hx hb dX12_isAhead_49 (lv_at hl 5 rfl) ?_
          refine lv_iadd hx hb dX12_isAhead_51 ?_
          obtain ⟨q7, h⟩ := ck_some h
          refine w_lld hF hW (pM_37 K a _) q7 dX12_isAhead_52 ?_
          refine lv_aload_n hx hb dX12_isAhead_53 rfl (lv_at hl 0 rfl) ?_
          refine g_X12_121 hF hW dX12_isAhead_54 ?_
          refine lv_bipush (v := 16) hx hb dX12_isAhead_57 (by decide) ?_
          refine lv_iload_n hx hb dX12_isAhead_59 rfl (lv_at hl 2 rfl) ?_
          refine lv_imul hx hb dX12_isAhead_60 ?_
          refine lv_iload hx hb dX12_isAhead_61 (lv_at hl 5 rfl) ?_
          refine lv_iadd hx hb dX12_isAhead_63 ?_
          obtain ⟨q8, h⟩ := ck_some h
          refine w_lld hF hW (pM_37 K a _) q8 dX12_isAhead_64 ?_
          refine ll_eq (tgt := 103) hx hb dX12_isAhead_65 dX12_isAhead_66 (by decide) (fun q9 => ?_) (fun q9 => ?_)
          · have h := ifp q9 h
            refine lv_iinc (v := (x5 + 1)) (lv' := [(5, .int (x5 + 1)), (0, .ref (a 0)), (1, .int x1), (2, .int x2), (3, .int x3), (4, .int x4)]) hx hb dX12_isAhead_103 hl (k := 5) rfl rfl (by decide) rfl (fun ls hl => ?_)
            refine lv_goto (tgt := 28) hx hb dX12_isAhead_106 (by decide) ?_
            exact ih28 x1 x2 x3 x4 (x5 + 1) _ _ _ _ h hW (lv_sub hl [1, 2, 3, 4, 5, 0] rfl)
          · have h := ifn q9 h
            refine lv_aload_n hx hb dX12_isAhead_69 rfl (lv_at hl 0 rfl) ?_
            refine g_X12_121 hF hW dX12_isAhead_70 ?_
            refine lv_bipush (v := 16) hx hb dX12_isAhead_73 (by decide) ?_
            refine lv_iload_n hx hb dX12_isAhead_75 rfl (lv_at hl 1 rfl) ?_
            refine lv_imul hx hb dX12_isAhead_76 ?_
            refine lv_iload hx hb dX12_isAhead_77 (lv_at hl 5 rfl) ?_
            refine lv_iadd hx hb dX12_isAhead_79 ?_
            obtain ⟨q10, h⟩ := ck_some h
            refine w_lld hF hW (pM_37 K a _) q10 dX12_isAhead_80 ?_
            refine lv_aload_n hx hb dX12_isAhead_81 rfl (lv_at hl 0 rfl) ?_
            refine g_X12_121 hF hW dX12_isAhead_82 ?_
            refine lv_bipush (v := 16) hx hb dX12_isAhead_85 (by decide) ?_
            refine lv_iload_n hx hb dX12_isAhead_87 rfl (lv_at hl 2 rfl) ?_
            refine lv_imul hx hb dX12_isAhead_88 ?_
            refine lv_iload hx hb dX12_isAhead_89 (lv_at hl 5 rfl) ?_
            refine lv_iadd hx hb dX12_isAhead_91 ?_
            obtain ⟨q11, h⟩ := ck_some h
            refine w_lld hF hW (pM_37 K a _) q11 dX12_isAhead_92 ?_
            refine ll_ge (tgt := 101) hx hb dX12_isAhead_93 dX12_isAhead_94 (by decide) (fun q12 => ?_) (fun q12 => ?_)
            · have h := ifp q12 h
              refine lv_iconst (v := 0) hx hb dX12_isAhead_101 (by decide) ?_
              obtain rfl := Option.some.inj h
              exact rt_i hF hr hk (bI_n false) (fun _ => 0) hW rfl dX12_isAhead_102
            · have h := ifn q12 h
              refine lv_iconst (v := 1) hx hb dX12_isAhead_97 (by decide) ?_
              refine lv_goto (tgt := 102) hx hb dX12_isAhead_98 (by decide) ?_
              obtain rfl := Option.some.inj h
              exact rt_i hF hr hk (bI_n true) (fun _ => 0) hW rfl dX12_isAhead_102
  unfold f_X12_isAhead at h
  refine lv_aload_n hx hb dX12_isAhead_0 rfl (lv_at hl 0 rfl) ?_
  refine g_X12_99 hF hW dX12_isAhead_1 ?_
  refine lv_aload_n hx hb dX12_isAhead_4 rfl (lv_at hl 0 rfl) ?_
  refine g_X12_78 hF hW dX12_isAhead_5 ?_
  refine lv_iload_n hx hb dX12_isAhead_8 rfl (lv_at hl 1 rfl) ?_
  obtain ⟨q1, h⟩ := ck_some h
  refine w_ild hF hW (pM_23 K a _) q1 dX12_isAhead_9 ?_
  obtain ⟨q2, h⟩ := ck_some h
  refine w_ild hF hW (pM_30 K a _) q2 dX12_isAhead_10 ?_
  refine lv_istore_n (lv' := [(3, .int (M.1 30 (M.1 23 x1.toNatClampNeg).toNatClampNeg)), (0, .ref (a 0)), (1, .int x1), (2, .int x2)]) hx hb dX12_isAhead_11 rfl hl (by decide) rfl (fun ls hl => ?_)
  refine lv_aload_n hx hb dX12_isAhead_12 rfl (lv_at hl 1 rfl) ?_
  refine g_X12_99 hF hW dX12_isAhead_13 ?_
  refine lv_aload_n hx hb dX12_isAhead_16 rfl (lv_at hl 1 rfl) ?_
  refine g_X12_78 hF hW dX12_isAhead_17 ?_
  refine lv_iload_n hx hb dX12_isAhead_20 rfl (lv_at hl 3 rfl) ?_
  obtain ⟨q3, h⟩ := ck_some h
  refine w_ild hF hW (pM_23 K a _) q3 dX12_isAhead_21 ?_
  obtain ⟨q4, h⟩ := ck_some h
  refine w_ild hF hW (pM_30 K a _) q4 dX12_isAhead_22 ?_
  refine lv_istore (lv' := [(4, .int (M.1 30 (M.1 23 x2.toNatClampNeg).toNatClampNeg)), (3, .int (M.1 30 (M.1 23 x1.toNatClampNeg).toNatClampNeg)), (0, .ref (a 0)), (1, .int x1), (2, .int x2)]) hx hb dX12_isAhead_23 hl (by decide) rfl (fun ls hl => ?_)
  refine lv_iconst (v := 0) hx hb dX12_isAhead_25 (by decide) ?_
  refine lv_istore (lv' := [(5, .int 0), (4, .int (M.1 30 (M.1 23 x2.toNatClampNeg).toNatClampNeg)), (3, .int (M.1 30 (M.1 23 x1.toNatClampNeg).toNatClampNeg)), (0, .ref (a 0)), (1, .int x1), (2, .int x2)]) hx hb dX12_isAhead_26 hl (by decide) rfl (fun ls hl => ?_)
  exact J28 100000 x1 x2 (M.1 30 (M.1 23 x1.toNatClampNeg).toNatClampNeg) (M.1 30 (M.1 23 x2.toNatClampNeg).toNatClampNeg) 0 _ _ _ _ h hW (lv_sub hl [3, 4, 5, 2, 1, 0] rfl)
set_option maxRecDepth 100000 in
set_option maxHeartbeats 1000000 in
theorem c_X12_layOrder (l : Launch) (K : Kx) (a : Nat → Nat) {M M0 : Mem}   (h : f_X12_layOrder M = some M0) : CMv l yX12_layOrder cX12_layOrder 8 ({ frames := 1, cells := 0, slots := 0, locals := 25 } : Room) K [.ref (a 0)] (wM K a M) (fun _ => wM K a M0) := by
  refine cs_v (by decide +kernel) (Nat.le_of_ble_eq_true rfl) ?_
  intro p e s m args below meth c A ls hF hr hk hnm hW hl
  have hx := hF.1
  have hb := hF.2.1
  have hl : lv_has ls 8 [(0, .ref (a 0))] := hl
  obtain ⟨H, hH⟩ : ∃ z, z = s.heap := ⟨_, rfl⟩
  rw [← hH] at hW ⊢
  have J2 : ∀ (n2 : Nat) (x1 : Int32) (M : Mem) (H : Heap) (locs : List Loc) (ls : Array Slot), f_X12_layOrder_2 n2 x1 M = some M0 → Wd K A s (wM K a M) H locs → lv_has ls 8 [(0, .ref (a 0)), (1, .int x1)] → W p l e ({ frames := 1, cells := 0, slots := 0, locals := 25 } : Room) s m args below meth c H locs 0 0 (EndV K A (fun _ => wM K a M0) below args s ({ frames := 1, cells := 0, slots := 0, locals := 25 } : Room)) (F0 m 2 ls []) := by
    intro n2
    induction n2 with
    | zero => intro x1 M H locs ls h; exact absurd h (by simp [f_X12_layOrder_2])
    | succ n2 ih2 =>
      have J19 : ∀ (n19 : Nat) (x1 : Int32) (x2 : Int32) (x3 : Int32) (M : Mem) (H : Heap) (locs : List Loc) (ls : Array Slot), f_X12_layOrder_19 (f_X12_layOrder_2 n2) n19 x1 x2 x3 M = some M0 → Wd K A s (wM K a M) H locs → lv_has ls 8 [(0, .ref (a 0)), (1, .int x1), (2, .int x2), (3, .int x3)] → W p l e ({ frames := 1, cells := 0, slots := 0, locals := 25 } : Room) s m args below meth c H locs 0 0 (EndV K A (fun _ => wM K a M0) below args s ({ frames := 1, cells := 0, slots := 0, locals := 25 } : Room)) (F0 m 19 ls []) := by
        intro n19
        induction n19 with
        | zero => intro x1 x2 x3 M H locs ls h; exact absurd h (by simp [f_X12_layOrder_19])
        | succ n19 ih19 =>
          have J49 : ∀ (n49 : Nat) (x1 : Int32) (x2 : Int32) (x3 : Int32) (x4 : Int32) (x5 : Int64) (x7 : Int32) (M : Mem) (H : Heap) (locs : List Loc) (ls : Array Slot), f_X12_layOrder_49 (f_X12_layOrder_19 (f_X12_layOrder_2 n2) n19) n49 x1 x2 x3 x4 x5 x7 M = some M0 → Wd K A s (wM K a M) H locs → lv_has ls 8 [(0, .ref (a 0)), (1, .int x1), (2, .int x2), (3, .int x3), (4, .int x4), (5, .long x5), (7, .int x7)] → W p l e ({ frames := 1, cells := 0, slots := 0, locals := 25 } : Room) s m args below meth c H locs 0 0 (EndV K A (fun _ => wM K a M0) below args s ({ frames := 1, cells := 0, slots := 0, locals := 25 } : Room)) (F0 m 49 ls []) := by
            intro n49
            induction n49 with
            | zero => intro x1 x2 x3 x4 x5 x7 M H locs ls h; exact absurd h (by simp [f_X12_layOrder_49])
            | succ n49 ih49 =>
              intro x1 x2 x3 x4 x5 x7 M H locs ls h hW hl
              rw [f_X12_layOrder_49] at h
              refine lv_iload hx hb dX12_layOrder_49 (lv_at hl 6 rfl) ?_
              refine lv_iconst (v := 4) hx hb dX12_layOrder_51 (by decide) ?_
              refine lv_icmp_ge (tgt := 91) hx hb dX12_layOrder_52 (by decide) (fun q10 => ?_) (fun q10 => ?_)
              · have h := ifp q10 h
                refine lv_aload_n hx hb dX12_layOrder_91 rfl (lv_at hl 0 rfl) ?_
                refine g_X12_121 hF hW dX12_layOrder_92 ?_
                refine lv_bipush (v := 16) hx hb dX12_layOrder_95 (by decide) ?_
                refine lv_iload_n hx hb dX12_layOrder_97 rfl (lv_at hl 1 rfl) ?_
                refine lv_imul hx hb dX12_layOrder_98 ?_
                refine lv_iload_n hx hb dX12_layOrder_99 rfl (lv_at hl 3 rfl) ?_
                refine lv_iadd hx hb dX12_layOrder_100 ?_
                refine lv_lload hx hb dX12_layOrder_101 (lv_at hl 5 rfl) ?_
                refine lv_aload_n hx hb dX12_layOrder_103 rfl (lv_at hl 0 rfl) ?_
                refine g_X12_102 hF hW dX12_layOrder_104 ?_
                refine lv_iload hx hb dX12_layOrder_107 (lv_at hl 4 rfl) ?_
                refine lv_iconst (v := 5) hx hb dX12_layOrder_109 (by decide) ?_
                refine lv_iadd hx hb dX12_layOrder_110 ?_
                obtain ⟨q11, h⟩ := ck_some h
                refine w_ild hF hW (pM_31 K a _) q11 dX12_layOrder_111 ?_
                obtain ⟨r12, hc14, h⟩ := bq_some h
                refine cS_l (rest := [.int ((16 * x1) + x3), .ref (a 37)]) hF hW mw_X12_353 (c_X12_cutDown l K hc14) ⟨Nat.le_of_ble_eq_true rfl, Nat.le_of_ble_eq_true rfl⟩ rfl hl.1 rfl (Nat.le_of_ble_eq_true rfl) dX12_layOrder_112 ⟨Nat.le_of_ble_eq_true rfl, Nat.le_of_ble_eq_true rfl⟩ (fun _ H locs hW => ?_)
                obtain ⟨q15, h⟩ := ck_some h
                refine w_lst hF hW (pM_37 K a _) q15 (uM_37 K a _ _ _) dX12_layOrder_115 (fun H locs hW => ?_)
                refine lv_iinc (v := (x3 + 1)) (lv' := [(3, .int (x3 + 1)), (0, .ref (a 0)), (1, .int x1), (2, .int x2), (4, .int x4), (5, .long x5), (7, .int x7)]) hx hb dX12_layOrder_116 hl (k := 3) rfl rfl (by decide) rfl (fun ls hl => ?_)
                refine lv_goto (tgt := 19) hx hb dX12_layOrder_119 (by decide) ?_
                exact ih19 x1 x2 (x3 + 1) _ _ _ _ h hW (lv_sub hl [1, 2, 3, 0] rfl)
              · have h := ifn q10 h
                refine lv_lload hx hb dX12_layOrder_55 (lv_at hl 5 rfl) ?_
                refine lv_aload_n hx hb dX12_layOrder_57 rfl (lv_at hl 0 rfl) ?_
                refine g_X12_102 hF hW dX12_layOrder_58 ?_
                refine lv_iload hx hb dX12_layOrder_61 (lv_at hl 4 rfl) ?_
                refine lv_iconst (v := 1) hx hb dX12_layOrder_63 (by decide) ?_
                refine lv_iadd hx hb dX12_layOrder_64 ?_
                refine lv_iload hx hb dX12_layOrder_65 (lv_at hl 6 rfl) ?_
                refine lv_iadd hx hb dX12_layOrder_67 ?_
                obtain ⟨q16, h⟩ := ck_some h
                refine w_ild hF hW (pM_31 K a _) q16 dX12_layOrder_68 ?_
                refine lv_i2l hx hb dX12_layOrder_69 rfl ?_
                refine lv_aload_n hx hb dX12_layOrder_70 rfl (lv_at hl 0 rfl) ?_
                refine g_X12_81 hF hW dX12_layOrder_71 ?_
                refine lv_iconst (v := 4) hx hb dX12_layOrder_74 (by decide) ?_
                refine lv_iload_n hx hb dX12_layOrder_75 rfl (lv_at hl 1 rfl) ?_
                refine lv_imul hx hb dX12_layOrder_76 ?_
                refine lv_iload hx hb dX12_layOrder_77 (lv_at hl 6 rfl) ?_
                refine lv_iadd hx hb dX12_layOrder_79 ?_
                obtain ⟨q17, h⟩ := ck_some h
                refine w_lld hF hW (pM_24 K a _) q17 dX12_layOrder_80 ?_
                refine lv_lmul hx hb dX12_layOrder_81 ?_
                refine lv_ladd hx hb dX12_layOrder_82 ?_
                refine lv_lstore (lv' := [(5, .long (x5 + ((M.1 31 ((x4 + 1) + x7).toNatClampNeg).toInt64 * (M.2.1 24 ((4 * x1) + x7).toNatClampNeg)))), (0, .ref (a 0)), (1, .int x1), (2, .int x2), (3, .int x3), (4, .int x4), (7, .int x7)]) hx hb dX12_layOrder_83 hl (by decide) rfl (fun ls hl => ?_)
                refine lv_iinc (v := (x7 + 1)) (lv' := [(7, .int (x7 + 1)), (5, .long (x5 + ((M.1 31 ((x4 + 1) + x7).toNatClampNeg).toInt64 * (M.2.1 24 ((4 * x1) + x7).toNatClampNeg)))), (0, .ref (a 0)), (1, .int x1), (2, .int x2), (3, .int x3), (4, .int x4)]) hx hb dX12_layOrder_85 hl (k := 6) rfl rfl (by decide) rfl (fun ls hl => ?_)
                refine lv_goto (tgt := 49) hx hb dX12_layOrder_88 (by decide) ?_
                exact ih49 x1 x2 x3 x4 (x5 + ((M.1 31 ((x4 + 1) + x7).toNatClampNeg).toInt64 * (M.2.1 24 ((4 * x1) + x7).toNatClampNeg))) (x7 + 1) _ _ _ _ h hW (lv_sub hl [2, 3, 4, 5, 6, 1, 0] rfl)
          intro x1 x2 x3 M H locs ls h hW hl
          rw [f_X12_layOrder_19] at h
          refine lv_iload_n hx hb dX12_layOrder_19 rfl (lv_at hl 3 rfl) ?_
          refine lv_aload_n hx hb dX12_layOrder_20 rfl (lv_at hl 0 rfl) ?_
          refine g_X12_99 hF hW dX12_layOrder_21 ?_
          refine lv_iload_n hx hb dX12_layOrder_24 rfl (lv_at hl 2 rfl) ?_
          obtain ⟨q3, h⟩ := ck_some h
          refine w_ild hF hW (pM_30 K a _) q3 dX12_layOrder_25 ?_
          refine lv_icmp_ge (tgt := 122) hx hb dX12_layOrder_26 (by decide) (fun q4 => ?_) (fun q4 => ?_)
          · have h := ifp q4 h
            refine lv_iinc (v := (x1 + 1)) (lv' := [(1, .int (x1 + 1)), (0, .ref (a 0)), (2, .int x2), (3, .int x3)]) hx hb dX12_layOrder_122 hl (k := 1) rfl rfl (by decide) rfl (fun ls hl => ?_)
            refine lv_goto (tgt := 2) hx hb dX12_layOrder_125 (by decide) ?_
            exact ih2 (x1 + 1) _ _ _ _ h hW (lv_sub hl [1, 0] rfl)
          · have h := ifn q4 h
            refine lv_iload_n hx hb dX12_layOrder_29 rfl (lv_at hl 2 rfl) ?_
            refine lv_iload_n hx hb dX12_layOrder_30 rfl (lv_at hl 3 rfl) ?_
            obtain ⟨r5, hc7, h⟩ := bq_some h
            refine cS_i (rest := []) hF hW mw_X12_295 (c_X12_rowAt l K hc7) ⟨Nat.le_of_ble_eq_true rfl, Nat.le_of_ble_eq_true rfl⟩ rfl hl.1 rfl (Nat.le_of_ble_eq_true rfl) dX12_layOrder_31 ⟨Nat.le_of_ble_eq_true rfl, Nat.le_of_ble_eq_true rfl⟩ (fun _ H locs hW => ?_)
            refine lv_istore (lv' := [(4, .int r5), (0, .ref (a 0)), (1, .int x1), (2, .int x2), (3, .int x3)]) hx hb dX12_layOrder_34 hl (by decide) rfl (fun ls hl => ?_)
            refine lv_aload_n hx hb dX12_layOrder_36 rfl (lv_at hl 1 rfl) ?_
            refine g_X12_102 hF hW dX12_layOrder_37 ?_
            refine lv_iload hx hb dX12_layOrder_40 (lv_at hl 0 rfl) ?_
            obtain ⟨q8, h⟩ := ck_some h
            refine w_ild hF hW (pM_31 K a _) q8 dX12_layOrder_42 ?_
            refine lv_i2l hx hb dX12_layOrder_43 rfl ?_
            refine lv_lstore (lv' := [(5, .long (M.1 31 r5.toNatClampNeg).toInt64), (4, .int r5), (0, .ref (a 0)), (1, .int x1), (2, .int x2), (3, .int x3)]) hx hb dX12_layOrder_44 hl (by decide) rfl (fun ls hl => ?_)
            refine lv_iconst (v := 0) hx hb dX12_layOrder_46 (by decide) ?_
            refine lv_istore (lv' := [(7, .int 0), (5, .long (M.1 31 r5.toNatClampNeg).toInt64), (4, .int r5), (0, .ref (a 0)), (1, .int x1), (2, .int x2), (3, .int x3)]) hx hb dX12_layOrder_47 hl (by decide) rfl (fun ls hl => ?_)
            exact J49 100000 x1 x2 x3 r5 (M.1 31 r5.toNatClampNeg).toInt64 0 _ _ _ _ h hW (lv_sub hl [3, 4, 5, 6, 2, 1, 0] rfl)
      have J130 : ∀ (n130 : Nat) (x1 : Int32) (M : Mem) (H : Heap) (locs : List Loc) (ls : Array Slot), f_X12_layOrder_130 n130 x1 M = some M0 → Wd K A s (wM K a M) H locs → lv_has ls 8 [(0, .ref (a 0)), (1, .int x1)] → W p l e ({ frames := 1, cells := 0, slots := 0, locals := 25 } : Room) s m args below meth c H locs 0 0 (EndV K A (fun _ => wM K a M0) below args s ({ frames := 1, cells := 0, slots := 0, locals := 25 } : Room)) (F0 m 130 ls []) := by
        intro n130
        induction n130 with
        | zero => intro x1 M H locs ls h; exact absurd h (by simp [f_X12_layOrder_130])
        | succ n130 ih130 =>
          have J140 : ∀ (n140 : Nat) (x1 : Int32) (x2 : Int32) (M : Mem) (H : Heap) (locs : List Loc) (ls : Array Slot), f_X12_layOrder_140 (f_X12_layOrder_130 n130) n140 x1 x2 M = some M0 → Wd K A s (wM K a M) H locs → lv_has ls 8 [(0, .ref (a 0)), (1, .int x1), (2, .int x2)] → W p l e ({ frames := 1, cells := 0, slots := 0, locals := 25 } : Room) s m args below meth c H locs 0 0 (EndV K A (fun _ => wM K a M0) below args s ({ frames := 1, cells := 0, slots := 0, locals := 25 } : Room)) (F0 m 140 ls []) := by
            intro n140
            induction n140 with
            | zero => intro x1 x2 M H locs ls h; exact absurd h (by simp [f_X12_layOrder_140])
            | succ n140 ih140 =>
              intro x1 x2 M H locs ls h hW hl
              rw [f_X12_layOrder_140] at h
              refine lv_iload_n hx hb dX12_layOrder_140 rfl (lv_at hl 2 rfl) ?_
              refine lv_if_le (tgt := 180) hx hb dX12_layOrder_141 (by decide) (fun q18 => ?_) (fun q18 => ?_)
              · have h := ifp q18 h
                refine lv_aload_n hx hb dX12_layOrder_180 rfl (lv_at hl 0 rfl) ?_
                refine g_X12_124 hF hW dX12_layOrder_181 ?_
                refine lv_iload_n hx hb dX12_layOrder_184 rfl (lv_at hl 2 rfl) ?_
                refine lv_iload_n hx hb dX12_layOrder_185 rfl (lv_at hl 1 rfl) ?_
                obtain ⟨q19, h⟩ := ck_some h
                refine w_ist hF hW (pM_38 K a _) q19 (uM_38 K a _ _ _) dX12_layOrder_186 (fun H locs hW => ?_)
                refine lv_iinc (v := (x1 + 1)) (lv' := [(1, .int (x1 + 1)), (0, .ref (a 0)), (2, .int x2)]) hx hb dX12_layOrder_187 hl (k := 1) rfl rfl (by decide) rfl (fun ls hl => ?_)
                refine lv_goto (tgt := 130) hx hb dX12_layOrder_190 (by decide) ?_
                exact ih130 (x1 + 1) _ _ _ _ h hW (lv_sub hl [1, 0] rfl)
              · have h := ifn q18 h
                refine lv_aload_n hx hb dX12_layOrder_144 rfl (lv_at hl 0 rfl) ?_
                refine lv_iload_n hx hb dX12_layOrder_145 rfl (lv_at hl 1 rfl) ?_
                refine lv_aload_n hx hb dX12_layOrder_146 rfl (lv_at hl 0 rfl) ?_
                refine g_X12_124 hF hW dX12_layOrder_147 ?_
                refine lv_iload_n hx hb dX12_layOrder_150 rfl (lv_at hl 2 rfl) ?_
                refine lv_iconst (v := 1) hx hb dX12_layOrder_151 (by decide) ?_
                refine lv_isub hx hb dX12_layOrder_152 ?_
                obtain ⟨q20, h⟩ := ck_some h
                refine w_ild hF hW (pM_38 K a _) q20 dX12_layOrder_153 ?_
                obtain ⟨r21, hc23, h⟩ := bq_some h
                refine cV_i (ci := 12) (q0 := 0) (rest := []) hF hW mw_X12_357 (c_X12_isAhead l K a hc23) ⟨Nat.le_of_ble_eq_true rfl, Nat.le_of_ble_eq_true rfl⟩ rfl rfl (pM_0 K a _) rfl hl.1 rfl (Nat.le_of_ble_eq_true rfl) dX12_layOrder_154 ⟨Nat.le_of_ble_eq_true rfl, Nat.le_of_ble_eq_true rfl⟩ (fun _ H locs hW => ?_)
                refine lz_eq (tgt := 180) hx hb dX12_layOrder_157 (by decide) (fun q24 => ?_) (fun q24 => ?_)
                · have h := ifn q24 h
                  refine lv_aload_n hx hb dX12_layOrder_180 rfl (lv_at hl 0 rfl) ?_
                  refine g_X12_124 hF hW dX12_layOrder_181 ?_
                  refine lv_iload_n hx hb dX12_layOrder_184 rfl (lv_at hl 2 rfl) ?_
                  refine lv_iload_n hx hb dX12_layOrder_185 rfl (lv_at hl 1 rfl) ?_
                  obtain ⟨q25, h⟩ := ck_some h
                  refine w_ist hF hW (pM_38 K a _) q25 (uM_38 K a _ _ _) dX12_layOrder_186 (fun H locs hW => ?_)
                  refine lv_iinc (v := (x1 + 1)) (lv' := [(1, .int (x1 + 1)), (0, .ref (a 0)), (2, .int x2)]) hx hb dX12_layOrder_187 hl (k := 1) rfl rfl (by decide) rfl (fun ls hl => ?_)
                  refine lv_goto (tgt := 130) hx hb dX12_layOrder_190 (by decide) ?_
                  exact ih130 (x1 + 1) _ _ _ _ h hW (lv_sub hl [1, 0] rfl)
                · have h := ifp q24 h
                  refine lv_aload_n hx hb dX12_layOrder_160 rfl (lv_at hl 0 rfl) ?_
                  refine g_X12_124 hF hW dX12_layOrder_161 ?_
                  refine lv_iload_n hx hb dX12_layOrder_164 rfl (lv_at hl 2 rfl) ?_
                  refine lv_aload_n hx hb dX12_layOrder_165 rfl (lv_at hl 0 rfl) ?_
                  refine g_X12_124 hF hW dX12_layOrder_166 ?_
                  refine lv_iload_n hx hb dX12_layOrder_169 rfl (lv_at hl 2 rfl) ?_
                  refine lv_iconst (v := 1) hx hb dX12_layOrder_170 (by decide) ?_
                  refine lv_isub hx hb dX12_layOrder_171 ?_
                  obtain ⟨q26, h⟩ := ck_some h
                  refine w_ild hF hW (pM_38 K a _) q26 dX12_layOrder_172 ?_
                  obtain ⟨q27, h⟩ := ck_some h
                  refine w_ist hF hW (pM_38 K a _) q27 (uM_38 K a _ _ _) dX12_layOrder_173 (fun H locs hW => ?_)
                  refine lv_iinc (v := (x2 + (-1))) (lv' := [(2, .int (x2 + (-1))), (0, .ref (a 0)), (1, .int x1)]) hx hb dX12_layOrder_174 hl (k := 2) rfl rfl (by decide) rfl (fun ls hl => ?_)
                  refine lv_goto (tgt := 140) hx hb dX12_layOrder_177 (by decide) ?_
                  exact ih140 x1 (x2 + (-1)) _ _ _ _ h hW (lv_sub hl [1, 2, 0] rfl)
          have J195 : ∀ (n195 : Nat) (x1 : Int32) (M : Mem) (H : Heap) (locs : List Loc) (ls : Array Slot), f_X12_layOrder_195 n195 x1 M = some M0 → Wd K A s (wM K a M) H locs → lv_has ls 8 [(0, .ref (a 0)), (1, .int x1)] → W p l e ({ frames := 1, cells := 0, slots := 0, locals := 25 } : Room) s m args below meth c H locs 0 0 (EndV K A (fun _ => wM K a M0) below args s ({ frames := 1, cells := 0, slots := 0, locals := 25 } : Room)) (F0 m 195 ls []) := by
            intro n195
            induction n195 with
            | zero => intro x1 M H locs ls h; exact absurd h (by simp [f_X12_layOrder_195])
            | succ n195 ih195 =>
              intro x1 M H locs ls h hW hl
              rw [f_X12_layOrder_195] at h
              refine lv_iload_n hx hb dX12_layOrder_195 rfl (lv_at hl 1 rfl) ?_
              refine lv_aload_n hx hb dX12_layOrder_196 rfl (lv_at hl 0 rfl) ?_
              refine g_X12_239 hF hW dX12_layOrder_197 ?_
              refine lv_icmp_ge (tgt := 221) hx hb dX12_layOrder_200 (by decide) (fun q28 => ?_) (fun q28 => ?_)
              · have h := ifp q28 h
                obtain rfl := Option.some.inj h
                exact rt_v hF hr hk (fun _ => 0) hW dX12_layOrder_221
              · have h := ifn q28 h
                refine lv_aload_n hx hb dX12_layOrder_203 rfl (lv_at hl 0 rfl) ?_
                refine g_X12_127 hF hW dX12_layOrder_204 ?_
                refine lv_aload_n hx hb dX12_layOrder_207 rfl (lv_at hl 0 rfl) ?_
                refine g_X12_124 hF hW dX12_layOrder_208 ?_
                refine lv_iload_n hx hb dX12_layOrder_211 rfl (lv_at hl 1 rfl) ?_
                obtain ⟨q29, h⟩ := ck_some h
                refine w_ild hF hW (pM_38 K a _) q29 dX12_layOrder_212 ?_
                refine lv_iload_n hx hb dX12_layOrder_213 rfl (lv_at hl 1 rfl) ?_
                obtain ⟨q30, h⟩ := ck_some h
                refine w_ist hF hW (pM_39 K a _) q30 (uM_39 K a _ _ _) dX12_layOrder_214 (fun H locs hW => ?_)
                refine lv_iinc (v := (x1 + 1)) (lv' := [(1, .int (x1 + 1)), (0, .ref (a 0))]) hx hb dX12_layOrder_215 hl (k := 1) rfl rfl (by decide) rfl (fun ls hl => ?_)
                refine lv_goto (tgt := 195) hx hb dX12_layOrder_218 (by decide) ?_
                exact ih195 (x1 + 1) _ _ _ _ h hW (lv_sub hl [1, 0] rfl)
          intro x1 M H locs ls h hW hl
          rw [f_X12_layOrder_130] at h
          refine lv_iload_n hx hb dX12_layOrder_130 rfl (lv_at hl 1 rfl) ?_
          refine lv_aload_n hx hb dX12_layOrder_131 rfl (lv_at hl 0 rfl) ?_
          refine g_X12_239 hF hW dX12_layOrder_132 ?_
          refine lv_icmp_ge (tgt := 193) hx hb dX12_layOrder_135 (by decide) (fun q9 => ?_) (fun q9 => ?_)
          · have h := ifp q9 h
            refine lv_iconst (v := 0) hx hb dX12_layOrder_193 (by decide) ?_
            refine lv_istore_n (lv' := [(1, .int 0), (0, .ref (a 0))]) hx hb dX12_layOrder_194 rfl hl (by decide) rfl (fun ls hl => ?_)
            exact J195 100000 0 _ _ _ _ h hW (lv_sub hl [1, 0] rfl)
          · have h := ifn q9 h
            refine lv_iload_n hx hb dX12_layOrder_138 rfl (lv_at hl 1 rfl) ?_
            refine lv_istore_n (lv' := [(2, .int x1), (0, .ref (a 0)), (1, .int x1)]) hx hb dX12_layOrder_139 rfl hl (by decide) rfl (fun ls hl => ?_)
            exact J140 100000 x1 x1 _ _ _ _ h hW (lv_sub hl [1, 2, 0] rfl)
      intro x1 M H locs ls h hW hl
      rw [f_X12_layOrder_2] at h
      refine lv_iload_n hx hb dX12_layOrder_2 rfl (lv_at hl 1 rfl) ?_
      refine lv_aload_n hx hb dX12_layOrder_3 rfl (lv_at hl 0 rfl) ?_
      refine g_X12_239 hF hW dX12_layOrder_4 ?_
      refine lv_icmp_ge (tgt := 128) hx hb dX12_layOrder_7 (by decide) (fun q1 => ?_) (fun q1 => ?_)
      · have h := ifp q1 h
        refine lv_iconst (v := 0) hx hb dX12_layOrder_128 (by decide) ?_
        refine lv_istore_n (lv' := [(1, .int 0), (0, .ref (a 0))]) hx hb dX12_layOrder_129 rfl hl (by decide) rfl (fun ls hl => ?_)
        exact J130 100000 0 _ _ _ _ h hW (lv_sub hl [1, 0] rfl)
      · have h := ifn q1 h
        refine lv_aload_n hx hb dX12_layOrder_10 rfl (lv_at hl 0 rfl) ?_
        refine g_X12_78 hF hW dX12_layOrder_11 ?_
        refine lv_iload_n hx hb dX12_layOrder_14 rfl (lv_at hl 1 rfl) ?_
        obtain ⟨q2, h⟩ := ck_some h
        refine w_ild hF hW (pM_23 K a _) q2 dX12_layOrder_15 ?_
        refine lv_istore_n (lv' := [(2, .int (M.1 23 x1.toNatClampNeg)), (0, .ref (a 0)), (1, .int x1)]) hx hb dX12_layOrder_16 rfl hl (by decide) rfl (fun ls hl => ?_)
        refine lv_iconst (v := 0) hx hb dX12_layOrder_17 (by decide) ?_
        refine lv_istore_n (lv' := [(3, .int 0), (2, .int (M.1 23 x1.toNatClampNeg)), (0, .ref (a 0)), (1, .int x1)]) hx hb dX12_layOrder_18 rfl hl (by decide) rfl (fun ls hl => ?_)
        exact J19 100000 x1 (M.1 23 x1.toNatClampNeg) 0 _ _ _ _ h hW (lv_sub hl [2, 3, 1, 0] rfl)
  unfold f_X12_layOrder at h
  refine lv_iconst (v := 0) hx hb dX12_layOrder_0 (by decide) ?_
  refine lv_istore_n (lv' := [(1, .int 0), (0, .ref (a 0))]) hx hb dX12_layOrder_1 rfl hl (by decide) rfl (fun ls hl => ?_)
  exact J2 100000 0 _ _ _ _ h hW (lv_sub hl [1, 0] rfl)
