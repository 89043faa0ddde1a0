set_option maxRecDepth 100000 in
set_option maxHeartbeats 1000000 in
theorem c_X0_turnLoop (l : Launch) (K : Kx) (a d : Nat → Nat) {M M0 : Mem} (wk : Mem → Int32 → Int32 → Option Mem) (fr lo : Nat) (hw : ∀ {M M0 : Mem} {x1 x2 : Int32}, wk M x1 x2 = some M0 → CMv l yX0_walk cX0_walk 5 ({ frames := fr, cells := 0, slots := 0, locals := lo } : Room) K [.ref (a 34), .int x1, .int x2] (wC K a d M) (fun _ => wC K a d M0)) {x1 : Int32} {x2 : Int32}  (h : f_X0_turnLoop wk M x1 x2 = some M0) : CMv l yX0_turnLoop cX0_turnLoop 9 ({ frames := fr + 6, cells := 0, slots := 0, locals := lo + 300 } : Room) K [.ref (a 34), .int x1, .int x2] (wC K a d M) (fun _ => wC K a d M0) := by
  refine cs_v (by decide +kernel) (Nat.le_of_ble_eq_true rfl) ?_
  intro p e s m args below meth c A ls hF hr hk hnm hW hl
  have hx := hF.1
  have hb := hF.2.1
  have hl : lv_has ls 9 [(0, .ref (a 34)), (1, .int x1), (2, .int x2)] := hl
  obtain ⟨H, hH⟩ : ∃ z, z = s.heap := ⟨_, rfl⟩
  rw [← hH] at hW ⊢
  have J59 : ∀ (n59 : Nat) (x1 : Int32) (x2 : Int32) (x3 : Int32) (x4 : Int64) (x6 : Int64) (x8 : Int32) (M : Mem) (H : Heap) (locs : List Loc) (ls : Array Slot), f_X0_turnLoop_59 wk n59 x1 x2 x3 x4 x6 x8 M = some M0 → Wd K A s (wC K a d M) H locs → lv_has ls 9 [(0, .ref (a 34)), (1, .int x1), (2, .int x2), (3, .int x3), (4, .long x4), (6, .long x6), (8, .int x8)] → W p l e ({ frames := fr + 6, cells := 0, slots := 0, locals := lo + 300 } : Room) s m args below meth c H locs 0 0 (EndV K A (fun _ => wC K a d M0) below args s ({ frames := fr + 6, cells := 0, slots := 0, locals := lo + 300 } : Room)) (F0 m 59 ls []) := by
    intro n59
    induction n59 with
    | zero => intro x1 x2 x3 x4 x6 x8 M H locs ls h; exact absurd h (by simp [f_X0_turnLoop_59])
    | succ n59 ih59 =>
      intro x1 x2 x3 x4 x6 x8 M H locs ls h hW hl
      rw [f_X0_turnLoop_59] at h
      refine lv_iload hx hb dX0_turnLoop_59 (lv_at hl 6 rfl) ?_
      refine lv_sipush (v := 4000) hx hb dX0_turnLoop_61 (by decide) ?_
      refine lv_icmp_gt (tgt := 148) hx hb dX0_turnLoop_64 (by decide) (fun q10 => ?_) (fun q10 => ?_)
      · have h := ifp q10 h
        refine lv_aload_n hx hb dX0_turnLoop_148 rfl (lv_at hl 0 rfl) ?_
        refine g_X0_19 hF hW dX0_turnLoop_149 ?_
        refine lv_iload_n hx hb dX0_turnLoop_152 rfl (lv_at hl 3 rfl) ?_
        refine lv_lconst (v := 0) hx hb dX0_turnLoop_153 (by decide) ?_
        obtain ⟨q11, h⟩ := ck_some h
        refine w_lst hF hW (pC_37 K a d _) q11 (uC_37 K a d _ _ _) dX0_turnLoop_154 (fun H locs hW => ?_)
        obtain rfl := Option.some.inj h
        exact rt_v hF hr hk (fun _ => 0) hW dX0_turnLoop_155
      · have h := ifn q10 h
        refine lv_lload hx hb dX0_turnLoop_67 (lv_at hl 4 rfl) ?_
        refine lv_iload hx hb dX0_turnLoop_69 (lv_at hl 6 rfl) ?_
        refine lv_i2l hx hb dX0_turnLoop_71 rfl ?_
        refine lv_ladd hx hb dX0_turnLoop_72 ?_
        refine lv_lload hx hb dX0_turnLoop_73 (lv_at hl 5 rfl) ?_
        refine ll_gt (tgt := 148) hx hb dX0_turnLoop_75 dX0_turnLoop_76 (by decide) (fun q12 => ?_) (fun q12 => ?_)
        · have h := ifp q12 h
          refine lv_aload_n hx hb dX0_turnLoop_148 rfl (lv_at hl 0 rfl) ?_
          refine g_X0_19 hF hW dX0_turnLoop_149 ?_
          refine lv_iload_n hx hb dX0_turnLoop_152 rfl (lv_at hl 3 rfl) ?_
          refine lv_lconst (v := 0) hx hb dX0_turnLoop_153 (by decide) ?_
          obtain ⟨q13, h⟩ := ck_some h
          refine w_lst hF hW (pC_37 K a d _) q13 (uC_37 K a d _ _ _) dX0_turnLoop_154 (fun H locs hW => ?_)
          obtain rfl := Option.some.inj h
          exact rt_v hF hr hk (fun _ => 0) hW dX0_turnLoop_155
        · have h := ifn q12 h
          refine lv_aload_n hx hb dX0_turnLoop_79 rfl (lv_at hl 0 rfl) ?_
          refine g_X0_29 hF hW dX0_turnLoop_80 ?_
          refine lz_ne (tgt := 148) hx hb dX0_turnLoop_83 (by decide) (fun q14 => ?_) (fun q14 => ?_)
          · have h := ifp q14 h
            refine lv_aload_n hx hb dX0_turnLoop_148 rfl (lv_at hl 0 rfl) ?_
            refine g_X0_19 hF hW dX0_turnLoop_149 ?_
            refine lv_iload_n hx hb dX0_turnLoop_152 rfl (lv_at hl 3 rfl) ?_
            refine lv_lconst (v := 0) hx hb dX0_turnLoop_153 (by decide) ?_
            obtain ⟨q15, h⟩ := ck_some h
            refine w_lst hF hW (pC_37 K a d _) q15 (uC_37 K a d _ _ _) dX0_turnLoop_154 (fun H locs hW => ?_)
            obtain rfl := Option.some.inj h
            exact rt_v hF hr hk (fun _ => 0) hW dX0_turnLoop_155
          · have h := ifn q14 h
            refine lv_aload_n hx hb dX0_turnLoop_86 rfl (lv_at hl 0 rfl) ?_
            refine lv_dup hx hb dX0_turnLoop_87 rfl ?_
            refine g_X0_26 hF hW dX0_turnLoop_88 ?_
            refine lv_iconst (v := 1) hx hb dX0_turnLoop_91 (by decide) ?_
            refine lv_iadd hx hb dX0_turnLoop_92 ?_
            refine s_X0_26 (x := ((M.1 111 0) + 1)) hF hW dX0_turnLoop_93 (fun H locs hW => ?_)
            refine lv_aload_n hx hb dX0_turnLoop_96 rfl (lv_at hl 0 rfl) ?_
            refine g_X0_26 hF hW dX0_turnLoop_97 ?_
            refine lv_sipush (v := 4000) hx hb dX0_turnLoop_100 (by decide) ?_
            refine lv_icmp_le (tgt := 114) hx hb dX0_turnLoop_103 (by decide) (fun q16 => ?_) (fun q16 => ?_)
            · have h := ifp q16 h
              refine lv_aload_n hx hb dX0_turnLoop_114 rfl (lv_at hl 0 rfl) ?_
              refine g_X0_19 hF hW dX0_turnLoop_115 ?_
              refine lv_iload_n hx hb dX0_turnLoop_118 rfl (lv_at hl 3 rfl) ?_
              refine lv_lload hx hb dX0_turnLoop_119 (lv_at hl 4 rfl) ?_
              refine lv_iload hx hb dX0_turnLoop_121 (lv_at hl 6 rfl) ?_
              refine lv_i2l hx hb dX0_turnLoop_123 rfl ?_
              refine lv_ladd hx hb dX0_turnLoop_124 ?_
              obtain ⟨q17, h⟩ := ck_some h
              refine w_lst hF hW (pC_37 K a d _) q17 (uC_37 K a d _ _ _) dX0_turnLoop_125 (fun H locs hW => ?_)
              refine lv_aload_n hx hb dX0_turnLoop_126 rfl (lv_at hl 0 rfl) ?_
              refine lv_aload_n hx hb dX0_turnLoop_127 rfl (lv_at hl 0 rfl) ?_
              refine g_X0_40 hF hW dX0_turnLoop_128 ?_
              refine g_X0_50 hF hW dX0_turnLoop_131 ?_
              refine lv_iload_n hx hb dX0_turnLoop_134 rfl (lv_at hl 1 rfl) ?_
              obtain ⟨q18, h⟩ := ck_some h
              refine w_ild hF hW (pC_6 K a d _) q18 dX0_turnLoop_135 ?_
              refine lv_iload_n hx hb dX0_turnLoop_136 rfl (lv_at hl 2 rfl) ?_
              refine lv_iconst (v := 1) hx hb dX0_turnLoop_137 (by decide) ?_
              refine lv_iadd hx hb dX0_turnLoop_138 ?_
              obtain ⟨M20, hc21, h⟩ := bm_some h
              refine cV_v (ci := 0) (q0 := 34) (rest := []) hF hW mw_X0_55 (hw hc21) ⟨by dsimp only; omega, by dsimp only; omega⟩ rfl rfl (pC_34 K a d _) rfl hl.1 rfl (Nat.le_of_ble_eq_true rfl) dX0_turnLoop_139 ⟨by dsimp only; omega, by dsimp only; omega⟩ (fun _ H locs hW => ?_)
              refine lv_iinc (v := (x8 + 1)) (lv' := [(8, .int (x8 + 1)), (0, .ref (a 34)), (1, .int x1), (2, .int x2), (3, .int x3), (4, .long x4), (6, .long x6)]) hx hb dX0_turnLoop_142 hl (k := 6) rfl rfl (by decide) rfl (fun ls hl => ?_)
              refine lv_goto (tgt := 59) hx hb dX0_turnLoop_145 (by decide) ?_
              exact ih59 x1 x2 x3 x4 x6 (x8 + 1) _ _ _ _ h hW (lv_sub hl [1, 2, 3, 4, 5, 6, 0] rfl)
            · have h := ifn q16 h
              refine lv_aload_n hx hb dX0_turnLoop_106 rfl (lv_at hl 0 rfl) ?_
              refine lv_iconst (v := 1) hx hb dX0_turnLoop_107 (by decide) ?_
              refine s_X0_29 (x := true) hF hW dX0_turnLoop_108 (fun H locs hW => ?_)
              refine lv_goto (tgt := 142) hx hb dX0_turnLoop_111 (by decide) ?_
              refine lv_iinc (v := (x8 + 1)) (lv' := [(8, .int (x8 + 1)), (0, .ref (a 34)), (1, .int x1), (2, .int x2), (3, .int x3), (4, .long x4), (6, .long x6)]) hx hb dX0_turnLoop_142 hl (k := 6) rfl rfl (by decide) rfl (fun ls hl => ?_)
              refine lv_goto (tgt := 59) hx hb dX0_turnLoop_145 (by decide) ?_
              exact ih59 x1 x2 x3 x4 x6 (x8 + 1) _ _ _ _ h hW (lv_sub hl [1, 2, 3, 4, 5, 6, 0] rfl)
  unfold f_X0_turnLoop at h
  refine lv_aload_n hx hb dX0_turnLoop_0 rfl (lv_at hl 0 rfl) ?_
  refine g_X0_40 hF hW dX0_turnLoop_1 ?_
  refine g_X0_82 hF hW dX0_turnLoop_4 ?_
  refine lv_iload_n hx hb dX0_turnLoop_7 rfl (lv_at hl 1 rfl) ?_
  obtain ⟨q1, h⟩ := ck_some h
  refine w_ild hF hW (pC_11 K a d _) q1 dX0_turnLoop_8 ?_
  refine lv_istore_n (lv' := [(3, .int (M.1 11 x1.toNatClampNeg)), (0, .ref (a 34)), (1, .int x1), (2, .int x2)]) hx hb dX0_turnLoop_9 rfl hl (by decide) rfl (fun ls hl => ?_)
  refine lv_aload_n hx hb dX0_turnLoop_10 rfl (lv_at hl 1 rfl) ?_
  refine g_X0_36 hF hW dX0_turnLoop_11 ?_
  refine lv_aload_n hx hb dX0_turnLoop_14 rfl (lv_at hl 1 rfl) ?_
  refine g_X0_40 hF hW dX0_turnLoop_15 ?_
  refine g_X0_85 hF hW dX0_turnLoop_18 ?_
  refine lv_iload_n hx hb dX0_turnLoop_21 rfl (lv_at hl 2 rfl) ?_
  obtain ⟨q2, h⟩ := ck_some h
  refine w_ild hF hW (pC_12 K a d _) q2 dX0_turnLoop_22 ?_
  refine lv_aload_n hx hb dX0_turnLoop_23 rfl (lv_at hl 1 rfl) ?_
  refine g_X0_19 hF hW dX0_turnLoop_24 ?_
  refine lv_iconst (v := 0) hx hb dX0_turnLoop_27 (by decide) ?_
  obtain ⟨r3, hc5, h⟩ := bq_some h
  refine cV_l (ci := 8) (q0 := 1) (rest := []) hF hW mw_X0_88 (c_X8_reckon_h l K a d hc5) ⟨by dsimp only; omega, by dsimp only; omega⟩ rfl rfl (pC_1 K a d _) rfl hl.1 rfl (Nat.le_of_ble_eq_true rfl) dX0_turnLoop_28 ⟨by dsimp only; omega, by dsimp only; omega⟩ (fun _ H locs hW => ?_)
  refine lv_lstore (lv' := [(4, .long r3), (3, .int (M.1 11 x1.toNatClampNeg)), (0, .ref (a 34)), (1, .int x1), (2, .int x2)]) hx hb dX0_turnLoop_31 hl (by decide) rfl (fun ls hl => ?_)
  refine lv_aload_n hx hb dX0_turnLoop_33 rfl (lv_at hl 2 rfl) ?_
  refine g_X0_36 hF hW dX0_turnLoop_34 ?_
  refine lv_aload_n hx hb dX0_turnLoop_37 rfl (lv_at hl 2 rfl) ?_
  refine g_X0_40 hF hW dX0_turnLoop_38 ?_
  refine g_X0_94 hF hW dX0_turnLoop_41 ?_
  refine lv_iload_n hx hb dX0_turnLoop_44 rfl (lv_at hl 3 rfl) ?_
  obtain ⟨q6, h⟩ := ck_some h
  refine w_ild hF hW (pC_13 K a d _) q6 dX0_turnLoop_45 ?_
  refine lv_aload_n hx hb dX0_turnLoop_46 rfl (lv_at hl 2 rfl) ?_
  refine g_X0_19 hF hW dX0_turnLoop_47 ?_
  refine lv_iconst (v := 0) hx hb dX0_turnLoop_50 (by decide) ?_
  obtain ⟨r7, hc9, h⟩ := bq_some h
  refine cV_l (ci := 8) (q0 := 1) (rest := []) hF hW mw_X0_88 (c_X8_reckon_h l K a d hc9) ⟨by dsimp only; omega, by dsimp only; omega⟩ rfl rfl (pC_1 K a d _) rfl hl.1 rfl (Nat.le_of_ble_eq_true rfl) dX0_turnLoop_51 ⟨by dsimp only; omega, by dsimp only; omega⟩ (fun _ H locs hW => ?_)
  refine lv_lstore (lv' := [(6, .long r7), (4, .long r3), (3, .int (M.1 11 x1.toNatClampNeg)), (0, .ref (a 34)), (1, .int x1), (2, .int x2)]) hx hb dX0_turnLoop_54 hl (by decide) rfl (fun ls hl => ?_)
  refine lv_iconst (v := 0) hx hb dX0_turnLoop_56 (by decide) ?_
  refine lv_istore (lv' := [(8, .int 0), (6, .long r7), (4, .long r3), (3, .int (M.1 11 x1.toNatClampNeg)), (0, .ref (a 34)), (1, .int x1), (2, .int x2)]) hx hb dX0_turnLoop_57 hl (by decide) rfl (fun ls hl => ?_)
  exact J59 100000 x1 x2 (M.1 11 x1.toNatClampNeg) r3 r7 0 _ _ _ _ h hW (lv_sub hl [4, 5, 6, 3, 2, 1, 0] rfl)
set_option maxRecDepth 100000 in
set_option maxHeartbeats 1000000 in
theorem c_X0_walkB (l : Launch) (K : Kx) (a d : Nat → Nat) {M M0 : Mem} (wk : Mem → Int32 → Int32 → Option Mem) (fr lo : Nat) (hw : ∀ {M M0 : Mem} {x1 x2 : Int32}, wk M x1 x2 = some M0 → CMv l yX0_walk cX0_walk 5 ({ frames := fr, cells := 0, slots := 0, locals := lo } : Room) K [.ref (a 34), .int x1, .int x2] (wC K a d M) (fun _ => wC K a d M0)) {x1 : Int32} {x2 : Int32}  (h : f_X0_walkB wk M x1 x2 = some M0) : CMv l yX0_walk cX0_walk 5 ({ frames := fr + 12, cells := 0, slots := 0, locals := lo + 600 } : Room) K [.ref (a 34), .int x1, .int x2] (wC K a d M) (fun _ => wC K a d M0) := by
  refine cs_v (by decide +kernel) (Nat.le_of_ble_eq_true rfl) ?_
  intro p e s m args below meth c A ls hF hr hk hnm hW hl
  have hx := hF.1
  have hb := hF.2.1
  have hl : lv_has ls 5 [(0, .ref (a 34)), (1, .int x1), (2, .int x2)] := hl
  obtain ⟨H, hH⟩ : ∃ z, z = s.heap := ⟨_, rfl⟩
  rw [← hH] at hW ⊢
  have J12 : ∀ (n12 : Nat) (x2 : Int32) (x3 : Int32) (x4 : Int32) (M : Mem) (H : Heap) (locs : List Loc) (ls : Array Slot), f_X0_walkB_12 wk n12 x2 x3 x4 M = some M0 → Wd K A s (wC K a d M) H locs → lv_has ls 5 [(0, .ref (a 34)), (2, .int x2), (3, .int x3), (4, .int x4)] → W p l e ({ frames := fr + 12, cells := 0, slots := 0, locals := lo + 600 } : Room) s m args below meth c H locs 0 0 (EndV K A (fun _ => wC K a d M0) below args s ({ frames := fr + 12, cells := 0, slots := 0, locals := lo + 600 } : Room)) (F0 m 12 ls []) := by
    intro n12
    induction n12 with
    | zero => intro x2 x3 x4 M H locs ls h; exact absurd h (by simp [f_X0_walkB_12])
    | succ n12 ih12 =>
      have J101 : ∀ (x2 : Int32) (x3 : Int32) (x4 : Int32) (M : Mem) (H : Heap) (locs : List Loc) (ls : Array Slot), f_X0_walkB_101 wk (f_X0_walkB_12 wk n12) x2 x3 x4 M = some M0 → Wd K A s (wC K a d M) H locs → lv_has ls 5 [(0, .ref (a 34)), (2, .int x2), (3, .int x3), (4, .int x4)] → W p l e ({ frames := fr + 12, cells := 0, slots := 0, locals := lo + 600 } : Room) s m args below meth c H locs 0 0 (EndV K A (fun _ => wC K a d M0) below args s ({ frames := fr + 12, cells := 0, slots := 0, locals := lo + 600 } : Room)) (F0 m 101 ls []) := by
        intro x2 x3 x4 M H locs ls h hW hl
        unfold f_X0_walkB_101 at h
        refine lv_aload_n hx hb dX0_walk_101 rfl (lv_at hl 0 rfl) ?_
        refine g_X0_40 hF hW dX0_walk_102 ?_
        refine g_X0_79 hF hW dX0_walk_105 ?_
        refine lv_iload_n hx hb dX0_walk_108 rfl (lv_at hl 2 rfl) ?_
        obtain ⟨q28, h⟩ := ck_some h
        refine w_ild hF hW (pC_8 K a d _) q28 dX0_walk_109 ?_
        refine lv_istore_n (lv' := [(3, .int (M.1 8 x3.toNatClampNeg)), (0, .ref (a 34)), (2, .int x2), (4, .int x4)]) hx hb dX0_walk_110 rfl hl (by decide) rfl (fun ls hl => ?_)
        refine lv_iinc (v := (x4 + 1)) (lv' := [(4, .int (x4 + 1)), (3, .int (M.1 8 x3.toNatClampNeg)), (0, .ref (a 34)), (2, .int x2)]) hx hb dX0_walk_111 hl (k := 3) rfl rfl (by decide) rfl (fun ls hl => ?_)
        refine lv_goto (tgt := 12) hx hb dX0_walk_114 (by decide) ?_
        exact ih12 x2 (M.1 8 x3.toNatClampNeg) (x4 + 1) _ _ _ _ h hW (lv_sub hl [2, 3, 1, 0] rfl)
      intro x2 x3 x4 M H locs ls h hW hl
      rw [f_X0_walkB_12] at h
      refine lv_iload hx hb dX0_walk_12 (lv_at hl 3 rfl) ?_
      refine lv_bipush (v := 40) hx hb dX0_walk_14 (by decide) ?_
      refine lv_icmp_ge (tgt := 117) hx hb dX0_walk_16 (by decide) (fun q2 => ?_) (fun q2 => ?_)
      · have h := ifp q2 h
        obtain rfl := Option.some.inj h
        exact rt_v hF hr hk (fun _ => 0) hW dX0_walk_117
      · have h := ifn q2 h
        refine lv_iload_n hx hb dX0_walk_19 rfl (lv_at hl 2 rfl) ?_
        refine lv_if_lt (tgt := 117) hx hb dX0_walk_20 (by decide) (fun q3 => ?_) (fun q3 => ?_)
        · have h := ifp q3 h
          obtain rfl := Option.some.inj h
          exact rt_v hF hr hk (fun _ => 0) hW dX0_walk_117
        · have h := ifn q3 h
          refine lv_aload_n hx hb dX0_walk_23 rfl (lv_at hl 0 rfl) ?_
          refine g_X0_29 hF hW dX0_walk_24 ?_
          refine lz_ne (tgt := 117) hx hb dX0_walk_27 (by decide) (fun q4 => ?_) (fun q4 => ?_)
          · have h := ifp q4 h
            obtain rfl := Option.some.inj h
            exact rt_v hF hr hk (fun _ => 0) hW dX0_walk_117
          · have h := ifn q4 h
            refine lv_aload_n hx hb dX0_walk_30 rfl (lv_at hl 0 rfl) ?_
            refine g_X0_40 hF hW dX0_walk_31 ?_
            refine lv_iload_n hx hb dX0_walk_34 rfl (lv_at hl 2 rfl) ?_
            obtain ⟨r5, hc7, h⟩ := bq_some h
            refine cV_i (ci := 2) (q0 := 5) (rest := []) hF hW mw_X0_59 (c_X2_isAct l K a d hc7) ⟨by dsimp only; omega, by dsimp only; omega⟩ rfl rfl (pC_5 K a d _) rfl hl.1 rfl (Nat.le_of_ble_eq_true rfl) dX0_walk_35 ⟨by dsimp only; omega, by dsimp only; omega⟩ (fun _ H locs hW => ?_)
            refine lz_eq (tgt := 57) hx hb dX0_walk_38 (by decide) (fun q8 => ?_) (fun q8 => ?_)
            · have h := ifn q8 h
              refine lv_aload_n hx hb dX0_walk_57 rfl (lv_at hl 0 rfl) ?_
              refine g_X0_40 hF hW dX0_walk_58 ?_
              refine lv_iload_n hx hb dX0_walk_61 rfl (lv_at hl 2 rfl) ?_
              obtain ⟨r9, hc11, h⟩ := bq_some h
              refine cV_i (ci := 2) (q0 := 5) (rest := []) hF hW mw_X0_70 (c_X2_isLoop l K a d hc11) ⟨by dsimp only; omega, by dsimp only; omega⟩ rfl rfl (pC_5 K a d _) rfl hl.1 rfl (Nat.le_of_ble_eq_true rfl) dX0_walk_62 ⟨by dsimp only; omega, by dsimp only; omega⟩ (fun _ H locs hW => ?_)
              refine lz_eq (tgt := 77) hx hb dX0_walk_65 (by decide) (fun q12 => ?_) (fun q12 => ?_)
              · have h := ifn q12 h
                refine lv_aload_n hx hb dX0_walk_77 rfl (lv_at hl 0 rfl) ?_
                refine lv_iload_n hx hb dX0_walk_78 rfl (lv_at hl 2 rfl) ?_
                obtain ⟨r13, hc15, h⟩ := bq_some h
                refine cV_i (ci := 0) (q0 := 34) (rest := []) hF hW mw_X0_76 (c_X0_passes l K a d hc15) ⟨by dsimp only; omega, by dsimp only; omega⟩ rfl rfl (pC_34 K a d _) rfl hl.1 rfl (Nat.le_of_ble_eq_true rfl) dX0_walk_79 ⟨by dsimp only; omega, by dsimp only; omega⟩ (fun _ H locs hW => ?_)
                refine lz_eq (tgt := 101) hx hb dX0_walk_82 (by decide) (fun q16 => ?_) (fun q16 => ?_)
                · have h := ifn q16 h
                  exact J101 x2 x3 x4 _ _ _ _ h hW (lv_sub hl [0, 1, 2, 3] rfl)
                · have h := ifp q16 h
                  refine lv_aload_n hx hb dX0_walk_85 rfl (lv_at hl 0 rfl) ?_
                  refine lv_aload_n hx hb dX0_walk_86 rfl (lv_at hl 0 rfl) ?_
                  refine g_X0_40 hF hW dX0_walk_87 ?_
                  refine g_X0_50 hF hW dX0_walk_90 ?_
                  refine lv_iload_n hx hb dX0_walk_93 rfl (lv_at hl 2 rfl) ?_
                  obtain ⟨q17, h⟩ := ck_some h
                  refine w_ild hF hW (pC_6 K a d _) q17 dX0_walk_94 ?_
                  refine lv_iload_n hx hb dX0_walk_95 rfl (lv_at hl 1 rfl) ?_
                  refine lv_iconst (v := 1) hx hb dX0_walk_96 (by decide) ?_
                  refine lv_iadd hx hb dX0_walk_97 ?_
                  obtain ⟨M19, hc20, h⟩ := bm_some h
                  refine cV_v (ci := 0) (q0 := 34) (rest := []) hF hW mw_X0_55 (hw hc20) ⟨by dsimp only; omega, by dsimp only; omega⟩ rfl rfl (pC_34 K a d _) rfl hl.1 rfl (Nat.le_of_ble_eq_true rfl) dX0_walk_98 ⟨by dsimp only; omega, by dsimp only; omega⟩ (fun _ H locs hW => ?_)
                  exact J101 x2 x3 x4 _ _ _ _ h hW (lv_sub hl [0, 1, 2, 3] rfl)
              · have h := ifp q12 h
                refine lv_aload_n hx hb dX0_walk_68 rfl (lv_at hl 0 rfl) ?_
                refine lv_iload_n hx hb dX0_walk_69 rfl (lv_at hl 2 rfl) ?_
                refine lv_iload_n hx hb dX0_walk_70 rfl (lv_at hl 1 rfl) ?_
                obtain ⟨M22, hc23, h⟩ := bm_some h
                refine cV_v (ci := 0) (q0 := 34) (rest := []) hF hW mw_X0_73 (c_X0_turnLoop l K a d wk fr lo hw hc23) ⟨by dsimp only; omega, by dsimp only; omega⟩ rfl rfl (pC_34 K a d _) rfl hl.1 rfl (Nat.le_of_ble_eq_true rfl) dX0_walk_71 ⟨by dsimp only; omega, by dsimp only; omega⟩ (fun _ H locs hW => ?_)
                refine lv_goto (tgt := 101) hx hb dX0_walk_74 (by decide) ?_
                exact J101 x2 x3 x4 _ _ _ _ h hW (lv_sub hl [0, 1, 2, 3] rfl)
            · have h := ifp q8 h
              refine lv_aload_n hx hb dX0_walk_41 rfl (lv_at hl 0 rfl) ?_
              refine lv_aload_n hx hb dX0_walk_42 rfl (lv_at hl 0 rfl) ?_
              refine g_X0_40 hF hW dX0_walk_43 ?_
              refine g_X0_63 hF hW dX0_walk_46 ?_
              refine lv_iload_n hx hb dX0_walk_49 rfl (lv_at hl 2 rfl) ?_
              obtain ⟨q24, h⟩ := ck_some h
              refine w_ild hF hW (pC_17 K a d _) q24 dX0_walk_50 ?_
              obtain ⟨M26, hc27, h⟩ := bm_some h
              refine cV_v (ci := 0) (q0 := 34) (rest := []) hF hW mw_X0_66 (c_X0_addVisit l K a d hc27) ⟨by dsimp only; omega, by dsimp only; omega⟩ rfl rfl (pC_34 K a d _) rfl hl.1 rfl (Nat.le_of_ble_eq_true rfl) dX0_walk_51 ⟨by dsimp only; omega, by dsimp only; omega⟩ (fun _ H locs hW => ?_)
              refine lv_goto (tgt := 101) hx hb dX0_walk_54 (by decide) ?_
              exact J101 x2 x3 x4 _ _ _ _ h hW (lv_sub hl [0, 1, 2, 3] rfl)
  unfold f_X0_walkB at h
  refine lv_iload_n hx hb dX0_walk_0 rfl (lv_at hl 2 rfl) ?_
  refine lv_bipush (v := 40) hx hb dX0_walk_1 (by decide) ?_
  refine lv_icmp_le (tgt := 7) hx hb dX0_walk_3 (by decide) (fun q1 => ?_) (fun q1 => ?_)
  · have h := ifp q1 h
    refine lv_iload_n hx hb dX0_walk_7 rfl (lv_at hl 1 rfl) ?_
    refine lv_istore_n (lv' := [(3, .int x1), (0, .ref (a 34)), (1, .int x1), (2, .int x2)]) hx hb dX0_walk_8 rfl hl (by decide) rfl (fun ls hl => ?_)
    refine lv_iconst (v := 0) hx hb dX0_walk_9 (by decide) ?_
    refine lv_istore (lv' := [(4, .int 0), (3, .int x1), (0, .ref (a 34)), (1, .int x1), (2, .int x2)]) hx hb dX0_walk_10 hl (by decide) rfl (fun ls hl => ?_)
    exact J12 100000 x2 x1 0 _ _ _ _ h hW (lv_sub hl [2, 4, 1, 0] rfl)
  · have h := ifn q1 h
    obtain rfl := Option.some.inj h
    exact rt_v hF hr hk (fun _ => 0) hW dX0_walk_6
theorem c_X0_walk (l : Launch) (K : Kx) (a d : Nat → Nat) : ∀ (n : Nat) {M M0 : Mem} {x1 x2 : Int32}, f_X0_walk n M x1 x2 = some M0 → CMv l yX0_walk cX0_walk 5 ({ frames := 12 * n, cells := 0, slots := 0, locals := 600 * n } : Room) K [.ref (a 34), .int x1, .int x2] (wC K a d M) (fun _ => wC K a d M0) := by
  intro n
  induction n with
  | zero => intro M M0 x1 x2 h; exact absurd h (by simp [f_X0_walk])
  | succ n ih =>
    intro M M0 x1 x2 h
    rw [f_X0_walk] at h
    exact c_X0_walkB l K a d (f_X0_walk n) (12 * n) (600 * n) (fun h => ih h) h
set_option maxRecDepth 100000 in
set_option maxHeartbeats 1000000 in
theorem c_X0_refresh (l : Launch) (K : Kx) (a d : Nat → Nat) {M M0 : Mem}   (h : f_X0_refresh M = some M0) : CMv l yX0_refresh cX0_refresh 1 ({ frames := 541, cells := 0, slots := 0, locals := 27024 } : Room) K [.ref (a 34)] (wC K a d M) (fun _ => wC K a d M0) := by
  refine cs_v (by decide +kernel) (Nat.le_of_ble_eq_true rfl) ?_
  intro p e s m args below meth c A ls hF hr hk hnm hW hl
  have hx := hF.1
  have hb := hF.2.1
  have hl : lv_has ls 1 [(0, .ref (a 34))] := hl
  obtain ⟨H, hH⟩ : ∃ z, z = s.heap := ⟨_, rfl⟩
  rw [← hH] at hW ⊢
  unfold f_X0_refresh at h
  refine lv_aload_n hx hb dX0_refresh_0 rfl (lv_at hl 0 rfl) ?_
  refine g_X0_33 hF hW dX0_refresh_1 ?_
  refine lz_eq (tgt := 8) hx hb dX0_refresh_4 (by decide) (fun q1 => ?_) (fun q1 => ?_)
  · have h := ifn q1 h
    refine lv_aload_n hx hb dX0_refresh_8 rfl (lv_at hl 0 rfl) ?_
    refine lv_iconst (v := 0) hx hb dX0_refresh_9 (by decide) ?_
    refine s_X0_22 (x := 0) hF hW dX0_refresh_10 (fun H locs hW => ?_)
    refine lv_aload_n hx hb dX0_refresh_13 rfl (lv_at hl 0 rfl) ?_
    refine lv_iconst (v := 0) hx hb dX0_refresh_14 (by decide) ?_
    refine s_X0_26 (x := 0) hF hW dX0_refresh_15 (fun H locs hW => ?_)
    refine lv_aload_n hx hb dX0_refresh_18 rfl (lv_at hl 0 rfl) ?_
    refine lv_iconst (v := 0) hx hb dX0_refresh_19 (by decide) ?_
    refine s_X0_29 (x := false) hF hW dX0_refresh_20 (fun H locs hW => ?_)
    refine lv_aload_n hx hb dX0_refresh_23 rfl (lv_at hl 0 rfl) ?_
    refine g_X0_19 hF hW dX0_refresh_24 ?_
    refine lv_lconst (v := 0) hx hb dX0_refresh_27 (by decide) ?_
    refine cS_v (rest := []) hF hW mw_X0_44 (c_fillJ_a l K (pC_37 K a d _) (by decide)) ⟨Nat.le_of_ble_eq_true rfl, Nat.le_of_ble_eq_true rfl⟩ rfl hl.1 rfl (Nat.le_of_ble_eq_true rfl) dX0_refresh_28 ⟨Nat.le_of_ble_eq_true rfl, Nat.le_of_ble_eq_true rfl⟩ (fun _ H locs hW => ?_)
    have hW : Wd K A s (wC K a d (fL (sI (sI (sI M 110 0 0) 111 0 0) 112 0 (bI false)) 37 0 4 0)) H locs := hW
    refine lv_aload_n hx hb dX0_refresh_31 rfl (lv_at hl 0 rfl) ?_
    refine lv_aload_n hx hb dX0_refresh_32 rfl (lv_at hl 0 rfl) ?_
    refine g_X0_40 hF hW dX0_refresh_33 ?_
    refine g_X0_50 hF hW dX0_refresh_36 ?_
    refine lv_bipush (v := 40) hx hb dX0_refresh_39 (by decide) ?_
    obtain ⟨q2, h⟩ := ck_some h
    refine w_ild hF hW (pC_6 K a d _) q2 dX0_refresh_41 ?_
    refine lv_iconst (v := 0) hx hb dX0_refresh_42 (by decide) ?_
    obtain ⟨M4, hc5, h⟩ := bm_some h
    refine cV_v (ci := 0) (q0 := 34) (rest := []) hF hW mw_X0_55 (c_X0_walk l K a d 45 hc5) ⟨Nat.le_of_ble_eq_true rfl, Nat.le_of_ble_eq_true rfl⟩ rfl rfl (pC_34 K a d _) rfl hl.1 rfl (Nat.le_of_ble_eq_true rfl) dX0_refresh_43 ⟨Nat.le_of_ble_eq_true rfl, Nat.le_of_ble_eq_true rfl⟩ (fun _ H locs hW => ?_)
    refine lv_aload_n hx hb dX0_refresh_46 rfl (lv_at hl 0 rfl) ?_
    refine lv_iconst (v := 1) hx hb dX0_refresh_47 (by decide) ?_
    refine s_X0_33 (x := true) hF hW dX0_refresh_48 (fun H locs hW => ?_)
    obtain rfl := Option.some.inj h
    exact rt_v hF hr hk (fun _ => 0) hW dX0_refresh_51
  · have h := ifp q1 h
    obtain rfl := Option.some.inj h
    exact rt_v hF hr hk (fun _ => 0) hW dX0_refresh_7
set_option maxRecDepth 100000 in
set_option maxHeartbeats 1000000 in
theorem c_X3_leanFits (l : Launch) (K : Kx) (a d : Nat → Nat) {M : Mem} {x1 : Int32} {x2 : Int32} {x3 : Int32} {r0 : Bool} (h : f_X3_leanFits M x1 x2 x3 = some r0) : CMi l yX3_leanFits cX3_leanFits 9 (some .boolean) ({ frames := 2, cells := 0, slots := 0, locals := 47 } : Room) K [.ref (a 26), .int x1, .int x2, .int x3] (wC K a d M) (fun _ => wC K a d M) (bI r0) := by
  refine cs_i (by decide +kernel) (Nat.le_of_ble_eq_true rfl) ?_
  intro p e s m args below meth c A ls hF hr hk hnm hW hl
  have hx := hF.1
  have hb := hF.2.1
  have hl : lv_has ls 9 [(0, .ref (a 26)), (1, .int x1), (2, .int x2), (3, .int x3)] := hl
  obtain ⟨H, hH⟩ : ∃ z, z = s.heap := ⟨_, rfl⟩
  rw [← hH] at hW ⊢
  have J14 : ∀ (n14 : Nat) (x1 : Int32) (x2 : Int32) (x3 : Int32) (x4 : Int32) (x5 : Int32) (M : Mem) (H : Heap) (locs : List Loc) (ls : Array Slot), f_X3_leanFits_14 n14 x1 x2 x3 x4 x5 M = some r0 → Wd K A s (wC K a d M) H locs → lv_has ls 9 [(0, .ref (a 26)), (1, .int x1), (2, .int x2), (3, .int x3), (4, .int x4), (5, .int x5)] → W p l e ({ frames := 2, cells := 0, slots := 0, locals := 47 } : Room) s m args below meth c H locs 0 0 (EndI K A (fun _ => wC K a d M) (bI r0) below args s ({ frames := 2, cells := 0, slots := 0, locals := 47 } : Room)) (F0 m 14 ls []) := by
    intro n14
    induction n14 with
    | zero => intro x1 x2 x3 x4 x5 M H locs ls h; exact absurd h (by simp [f_X3_leanFits_14])
    | succ n14 ih14 =>
      have J81 : ∀ (n81 : Nat) (x1 : Int32) (x2 : Int32) (x3 : Int32) (x4 : Int32) (x5 : Int32) (x6 : Int32) (x7 : Int32) (x8 : Int32) (M : Mem) (H : Heap) (locs : List Loc) (ls : Array Slot), f_X3_leanFits_81 (f_X3_leanFits_14 n14) n81 x1 x2 x3 x4 x5 x6 x7 x8 M = some r0 → Wd K A s (wC K a d M) H locs → lv_has ls 9 [(0, .ref (a 26)), (1, .int x1), (2, .int x2), (3, .int x3), (4, .int x4), (5, .int x5), (6, .int x6), (7, .int x7), (8, .int x8)] → W p l e ({ frames := 2, cells := 0, slots := 0, locals := 47 } : Room) s m args below meth c H locs 0 0 (EndI K A (fun _ => wC K a d M) (bI r0) below args s ({ frames := 2, cells := 0, slots := 0, locals := 47 } : Room)) (F0 m 81 ls []) := by
        intro n81
        induction n81 with
        | zero => intro x1 x2 x3 x4 x5 x6 x7 x8 M H locs ls h; exact absurd h (by simp [f_X3_leanFits_81])
        | succ n81 ih81 =>
          intro x1 x2 x3 x4 x5 x6 x7 x8 M H locs ls h hW hl
          rw [f_X3_leanFits_81] at h
          refine lv_iload hx hb dX3_leanFits_81 (lv_at hl 8 rfl) ?_
          refine lv_iconst (v := 5) hx hb dX3_leanFits_83 (by decide) ?_
          refine lv_icmp_ge (tgt := 130) hx hb dX3_leanFits_84 (by decide) (fun q15 => ?_) (fun q15 => ?_)
          · have h := ifp q15 h
            refine lv_iinc (v := (x5 + 1)) (lv' := [(5, .int (x5 + 1)), (0, .ref (a 26)), (1, .int x1), (2, .int x2), (3, .int x3), (4, .int x4), (6, .int x6), (7, .int x7), (8, .int x8)]) hx hb dX3_leanFits_130 hl (k := 5) rfl rfl (by decide) rfl (fun ls hl => ?_)
            refine lv_goto (tgt := 14) hx hb dX3_leanFits_133 (by decide) ?_
            exact ih14 x1 x2 x3 x4 (x5 + 1) _ _ _ _ h hW (lv_sub hl [1, 2, 3, 4, 5, 0] rfl)
          · have h := ifn q15 h
            refine lv_aload_n hx hb dX3_leanFits_87 rfl (lv_at hl 0 rfl) ?_
            refine g_X3_12 hF hW dX3_leanFits_88 ?_
            refine g_X3_80_now hF hW dX3_leanFits_91 ?_
            refine lv_iload hx hb dX3_leanFits_94 (lv_at hl 6 rfl) ?_
            refine lv_iload hx hb dX3_leanFits_96 (lv_at hl 8 rfl) ?_
            refine lv_iadd hx hb dX3_leanFits_98 ?_
            obtain ⟨q16, h⟩ := ck_some h
            refine w_ild hF hW (pC_28 K a d _) q16 dX3_leanFits_99 ?_
            refine lv_iload_n hx hb dX3_leanFits_100 rfl (lv_at hl 3 rfl) ?_
            refine lv_aload_n hx hb dX3_leanFits_101 rfl (lv_at hl 0 rfl) ?_
            refine g_X3_12 hF hW dX3_leanFits_102 ?_
            refine g_X3_80_now hF hW dX3_leanFits_105 ?_
            refine lv_iload hx hb dX3_leanFits_108 (lv_at hl 7 rfl) ?_
            refine lv_iload hx hb dX3_leanFits_110 (lv_at hl 8 rfl) ?_
            refine lv_iadd hx hb dX3_leanFits_112 ?_
            obtain ⟨q17, h⟩ := ck_some h
            refine w_ild hF hW (pC_28 K a d _) q17 dX3_leanFits_113 ?_
            refine lv_imul hx hb dX3_leanFits_114 ?_
            refine lv_iadd hx hb dX3_leanFits_115 ?_
            obtain ⟨r18, hc20, h⟩ := bq_some h
            refine cSN_i (rest := []) hF hW mn_X3_83 (c_X11_rowNumberFits l K hc20) ⟨Nat.le_of_ble_eq_true rfl, Nat.le_of_ble_eq_true rfl⟩ rfl hl.1 rfl (Nat.le_of_ble_eq_true rfl) dX3_leanFits_116 ⟨Nat.le_of_ble_eq_true rfl, Nat.le_of_ble_eq_true rfl⟩ (fun _ H locs hW => ?_)
            refine lz_ne (tgt := 124) hx hb dX3_leanFits_119 (by decide) (fun q21 => ?_) (fun q21 => ?_)
            · have h := ifp q21 h
              refine lv_iinc (v := (x8 + 1)) (lv' := [(8, .int (x8 + 1)), (0, .ref (a 26)), (1, .int x1), (2, .int x2), (3, .int x3), (4, .int x4), (5, .int x5), (6, .int x6), (7, .int x7)]) hx hb dX3_leanFits_124 hl (k := 8) rfl rfl (by decide) rfl (fun ls hl => ?_)
              refine lv_goto (tgt := 81) hx hb dX3_leanFits_127 (by decide) ?_
              exact ih81 x1 x2 x3 x4 x5 x6 x7 (x8 + 1) _ _ _ _ h hW (lv_sub hl [1, 2, 3, 4, 5, 6, 7, 8, 0] rfl)
            · have h := ifn q21 h
              refine lv_iconst (v := 0) hx hb dX3_leanFits_122 (by decide) ?_
              obtain rfl := Option.some.inj h
              exact rt_i hF hr hk (bI_n false) (fun _ => 0) hW rfl dX3_leanFits_123
      intro x1 x2 x3 x4 x5 M H locs ls h hW hl
      rw [f_X3_leanFits_14] at h
      refine lv_iload hx hb dX3_leanFits_14 (lv_at hl 5 rfl) ?_
      refine lv_aload_n hx hb dX3_leanFits_16 rfl (lv_at hl 0 rfl) ?_
      refine g_X3_32 hF hW dX3_leanFits_17 ?_
      refine g_X3_36 hF hW dX3_leanFits_20 ?_
      refine lv_icmp_ge (tgt := 136) hx hb dX3_leanFits_23 (by decide) (fun q2 => ?_) (fun q2 => ?_)
      · have h := ifp q2 h
        refine lv_iconst (v := 1) hx hb dX3_leanFits_136 (by decide) ?_
        obtain rfl := Option.some.inj h
        exact rt_i hF hr hk (bI_n true) (fun _ => 0) hW rfl dX3_leanFits_137
      · have h := ifn q2 h
        refine lv_aload_n hx hb dX3_leanFits_26 rfl (lv_at hl 0 rfl) ?_
        refine lv_iload hx hb dX3_leanFits_27 (lv_at hl 5 rfl) ?_
        refine lv_iload_n hx hb dX3_leanFits_29 rfl (lv_at hl 1 rfl) ?_
        refine lv_iload_n hx hb dX3_leanFits_30 rfl (lv_at hl 2 rfl) ?_
        obtain ⟨r3, hc5, h⟩ := bq_some h
        refine cV_i (ci := 3) (q0 := 26) (rest := []) hF hW mw_X3_73 (c_X3_reaches l K a d hc5) ⟨Nat.le_of_ble_eq_true rfl, Nat.le_of_ble_eq_true rfl⟩ rfl rfl (pC_26 K a d _) rfl hl.1 rfl (Nat.le_of_ble_eq_true rfl) dX3_leanFits_31 ⟨Nat.le_of_ble_eq_true rfl, Nat.le_of_ble_eq_true rfl⟩ (fun _ H locs hW => ?_)
        refine lz_ne (tgt := 40) hx hb dX3_leanFits_34 (by decide) (fun q6 => ?_) (fun q6 => ?_)
        · have h := ifp q6 h
          refine lv_aload_n hx hb dX3_leanFits_40 rfl (lv_at hl 0 rfl) ?_
          refine g_X3_12 hF hW dX3_leanFits_41 ?_
          refine lv_iload hx hb dX3_leanFits_44 (lv_at hl 5 rfl) ?_
          refine lv_iload hx hb dX3_leanFits_46 (lv_at hl 4 rfl) ?_
          obtain ⟨r7, hc9, h⟩ := bq_some h
          refine cV_i (ci := 7) (q0 := 27) (rest := []) hF hW mw_X3_77 (c_X7_loopRow l K a d hc9) ⟨Nat.le_of_ble_eq_true rfl, Nat.le_of_ble_eq_true rfl⟩ rfl rfl (pC_27 K a d _) rfl hl.1 rfl (Nat.le_of_ble_eq_true rfl) dX3_leanFits_48 ⟨Nat.le_of_ble_eq_true rfl, Nat.le_of_ble_eq_true rfl⟩ (fun _ H locs hW => ?_)
          refine lv_istore (lv' := [(6, .int r7), (0, .ref (a 26)), (1, .int x1), (2, .int x2), (3, .int x3), (4, .int x4), (5, .int x5)]) hx hb dX3_leanFits_51 hl (by decide) rfl (fun ls hl => ?_)
          refine lv_aload_n hx hb dX3_leanFits_53 rfl (lv_at hl 1 rfl) ?_
          refine g_X3_12 hF hW dX3_leanFits_54 ?_
          refine lv_iload hx hb dX3_leanFits_57 (lv_at hl 6 rfl) ?_
          refine lv_iload_n hx hb dX3_leanFits_59 rfl (lv_at hl 3 rfl) ?_
          obtain ⟨r10, hc12, h⟩ := bq_some h
          refine cV_i (ci := 7) (q0 := 27) (rest := []) hF hW mw_X3_77 (c_X7_loopRow l K a d hc12) ⟨Nat.le_of_ble_eq_true rfl, Nat.le_of_ble_eq_true rfl⟩ rfl rfl (pC_27 K a d _) rfl hl.1 rfl (Nat.le_of_ble_eq_true rfl) dX3_leanFits_60 ⟨Nat.le_of_ble_eq_true rfl, Nat.le_of_ble_eq_true rfl⟩ (fun _ H locs hW => ?_)
          refine lv_istore (lv' := [(7, .int r10), (6, .int r7), (0, .ref (a 26)), (1, .int x1), (2, .int x2), (3, .int x3), (4, .int x4), (5, .int x5)]) hx hb dX3_leanFits_63 hl (by decide) rfl (fun ls hl => ?_)
          refine lv_iload hx hb dX3_leanFits_65 (lv_at hl 1 rfl) ?_
          refine lv_if_lt (tgt := 130) hx hb dX3_leanFits_67 (by decide) (fun q13 => ?_) (fun q13 => ?_)
          · have h := ifp q13 h
            refine lv_iinc (v := (x5 + 1)) (lv' := [(5, .int (x5 + 1)), (7, .int r10), (6, .int r7), (0, .ref (a 26)), (1, .int x1), (2, .int x2), (3, .int x3), (4, .int x4)]) hx hb dX3_leanFits_130 hl (k := 7) rfl rfl (by decide) rfl (fun ls hl => ?_)
            refine lv_goto (tgt := 14) hx hb dX3_leanFits_133 (by decide) ?_
            exact ih14 x1 x2 x3 x4 (x5 + 1) _ _ _ _ h hW (lv_sub hl [3, 4, 5, 6, 7, 0] rfl)
          · have h := ifn q13 h
            refine lv_iload hx hb dX3_leanFits_70 (lv_at hl 0 rfl) ?_
            refine lv_if_ge (tgt := 78) hx hb dX3_leanFits_72 (by decide) (fun q14 => ?_) (fun q14 => ?_)
            · have h := ifp q14 h
              refine lv_iconst (v := 0) hx hb dX3_leanFits_78 (by decide) ?_
              refine lv_istore (lv' := [(8, .int 0), (7, .int r10), (6, .int r7), (0, .ref (a 26)), (1, .int x1), (2, .int x2), (3, .int x3), (4, .int x4), (5, .int x5)]) hx hb dX3_leanFits_79 hl (by decide) rfl (fun ls hl => ?_)
              exact J81 100000 x1 x2 x3 x4 x5 r7 r10 0 _ _ _ _ h hW (lv_sub hl [3, 4, 5, 6, 7, 8, 2, 1, 0] rfl)
            · have h := ifn q14 h
              refine lv_goto (tgt := 130) hx hb dX3_leanFits_75 (by decide) ?_
              refine lv_iinc (v := (x5 + 1)) (lv' := [(5, .int (x5 + 1)), (7, .int r10), (6, .int r7), (0, .ref (a 26)), (1, .int x1), (2, .int x2), (3, .int x3), (4, .int x4)]) hx hb dX3_leanFits_130 hl (k := 7) rfl rfl (by decide) rfl (fun ls hl => ?_)
              refine lv_goto (tgt := 14) hx hb dX3_leanFits_133 (by decide) ?_
              exact ih14 x1 x2 x3 x4 (x5 + 1) _ _ _ _ h hW (lv_sub hl [3, 4, 5, 6, 7, 0] rfl)
        · have h := ifn q6 h
          refine lv_goto (tgt := 130) hx hb dX3_leanFits_37 (by decide) ?_
          refine lv_iinc (v := (x5 + 1)) (lv' := [(5, .int (x5 + 1)), (0, .ref (a 26)), (1, .int x1), (2, .int x2), (3, .int x3), (4, .int x4)]) hx hb dX3_leanFits_130 hl (k := 5) rfl rfl (by decide) rfl (fun ls hl => ?_)
          refine lv_goto (tgt := 14) hx hb dX3_leanFits_133 (by decide) ?_
          exact ih14 x1 x2 x3 x4 (x5 + 1) _ _ _ _ h hW (lv_sub hl [1, 2, 3, 4, 5, 0] rfl)
  unfold f_X3_leanFits at h
  refine lv_aload_n hx hb dX3_leanFits_0 rfl (lv_at hl 0 rfl) ?_
  refine g_X3_32 hF hW dX3_leanFits_1 ?_
  refine g_X3_45 hF hW dX3_leanFits_4 ?_
  refine lv_iload_n hx hb dX3_leanFits_7 rfl (lv_at hl 1 rfl) ?_
  obtain ⟨q1, h⟩ := ck_some h
  refine w_ild hF hW (pC_11 K a d _) q1 dX3_leanFits_8 ?_
  refine lv_istore (lv' := [(4, .int (M.1 11 x1.toNatClampNeg)), (0, .ref (a 26)), (1, .int x1), (2, .int x2), (3, .int x3)]) hx hb dX3_leanFits_9 hl (by decide) rfl (fun ls hl => ?_)
  refine lv_iconst (v := 0) hx hb dX3_leanFits_11 (by decide) ?_
  refine lv_istore (lv' := [(5, .int 0), (4, .int (M.1 11 x1.toNatClampNeg)), (0, .ref (a 26)), (1, .int x1), (2, .int x2), (3, .int x3)]) hx hb dX3_leanFits_12 hl (by decide) rfl (fun ls hl => ?_)
  exact J14 100000 x1 x2 x3 (M.1 11 x1.toNatClampNeg) 0 _ _ _ _ h hW (lv_sub hl [2, 3, 4, 5, 1, 0] rfl)
set_option maxRecDepth 100000 in
set_option maxHeartbeats 1000000 in
theorem c_X3_partFits (l : Launch) (K : Kx) (a d : Nat → Nat) {M : Mem} {x1 : Int32} {r0 : Bool} (h : f_X3_partFits M x1 = some r0) : CMi l yX3_partFits cX3_partFits 5 (some .boolean) ({ frames := 3, cells := 0, slots := 0, locals := 69 } : Room) K [.ref (a 26), .int x1] (wC K a d M) (fun _ => wC K a d M) (bI r0) := by
  refine cs_i (by decide +kernel) (Nat.le_of_ble_eq_true rfl) ?_
  intro p e s m args below meth c A ls hF hr hk hnm hW hl
  have hx := hF.1
  have hb := hF.2.1
  have hl : lv_has ls 5 [(0, .ref (a 26)), (1, .int x1)] := hl
  obtain ⟨H, hH⟩ : ∃ z, z = s.heap := ⟨_, rfl⟩
  rw [← hH] at hW ⊢
  have J12 : ∀ (n12 : Nat) (x1 : Int32) (x2 : Int32) (x3 : Int32) (M : Mem) (H : Heap) (locs : List Loc) (ls : Array Slot), f_X3_partFits_12 n12 x1 x2 x3 M = some r0 → Wd K A s (wC K a d M) H locs → lv_has ls 5 [(0, .ref (a 26)), (1, .int x1), (2, .int x2), (3, .int x3)] → W p l e ({ frames := 3, cells := 0, slots := 0, locals := 69 } : Room) s m args below meth c H locs 0 0 (EndI K A (fun _ => wC K a d M) (bI r0) below args s ({ frames := 3, cells := 0, slots := 0, locals := 69 } : Room)) (F0 m 12 ls []) := by
    intro n12
    induction n12 with
    | zero => intro x1 x2 x3 M H locs ls h; exact absurd h (by simp [f_X3_partFits_12])
    | succ n12 ih12 =>
      intro x1 x2 x3 M H locs ls h hW hl
      rw [f_X3_partFits_12] at h
      refine lv_iload_n hx hb dX3_partFits_12 rfl (lv_at hl 3 rfl) ?_
      refine lv_aload_n hx hb dX3_partFits_13 rfl (lv_at hl 0 rfl) ?_
      refine g_X3_32 hF hW dX3_partFits_14 ?_
      refine g_X3_36 hF hW dX3_partFits_17 ?_
      refine lv_icmp_ge (tgt := 76) hx hb dX3_partFits_20 (by decide) (fun q2 => ?_) (fun q2 => ?_)
      · have h := ifp q2 h
        refine lv_iconst (v := 1) hx hb dX3_partFits_76 (by decide) ?_
        obtain rfl := Option.some.inj h
        exact rt_i hF hr hk (bI_n true) (fun _ => 0) hW rfl dX3_partFits_77
      · have h := ifn q2 h
        refine lv_aload_n hx hb dX3_partFits_23 rfl (lv_at hl 0 rfl) ?_
        refine g_X3_32 hF hW dX3_partFits_24 ?_
        refine lv_iload_n hx hb dX3_partFits_27 rfl (lv_at hl 3 rfl) ?_
        refine lv_iload_n hx hb dX3_partFits_28 rfl (lv_at hl 1 rfl) ?_
        obtain ⟨r3, hc5, h⟩ := bq_some h
        refine cV_i (ci := 2) (q0 := 5) (rest := []) hF hW mw_X3_66 (c_X2_stands l K a d hc5) ⟨Nat.le_of_ble_eq_true rfl, Nat.le_of_ble_eq_true rfl⟩ rfl rfl (pC_5 K a d _) rfl hl.1 rfl (Nat.le_of_ble_eq_true rfl) dX3_partFits_29 ⟨Nat.le_of_ble_eq_true rfl, Nat.le_of_ble_eq_true rfl⟩ (fun _ H locs hW => ?_)
        refine lz_ne (tgt := 38) hx hb dX3_partFits_32 (by decide) (fun q6 => ?_) (fun q6 => ?_)
        · have h := ifp q6 h
          refine lv_aload_n hx hb dX3_partFits_38 rfl (lv_at hl 0 rfl) ?_
          refine g_X3_12 hF hW dX3_partFits_39 ?_
          refine lv_iload_n hx hb dX3_partFits_42 rfl (lv_at hl 3 rfl) ?_
          refine lv_iload_n hx hb dX3_partFits_43 rfl (lv_at hl 2 rfl) ?_
          obtain ⟨r7, hc9, h⟩ := bq_some h
          refine cV_i (ci := 7) (q0 := 27) (rest := []) hF hW mw_X3_101 (c_X7_rowAhead l K a d hc9) ⟨Nat.le_of_ble_eq_true rfl, Nat.le_of_ble_eq_true rfl⟩ rfl rfl (pC_27 K a d _) rfl hl.1 rfl (Nat.le_of_ble_eq_true rfl) dX3_partFits_44 ⟨Nat.le_of_ble_eq_true rfl, Nat.le_of_ble_eq_true rfl⟩ (fun _ H locs hW => ?_)
          refine lv_istore (lv' := [(4, .int r7), (0, .ref (a 26)), (1, .int x1), (2, .int x2), (3, .int x3)]) hx hb dX3_partFits_47 hl (by decide) rfl (fun ls hl => ?_)
          refine lv_iload hx hb dX3_partFits_49 (lv_at hl 0 rfl) ?_
          refine lv_if_lt (tgt := 70) hx hb dX3_partFits_51 (by decide) (fun q10 => ?_) (fun q10 => ?_)
          · have h := ifp q10 h
            refine lv_iinc (v := (x3 + 1)) (lv' := [(3, .int (x3 + 1)), (4, .int r7), (0, .ref (a 26)), (1, .int x1), (2, .int x2)]) hx hb dX3_partFits_70 hl (k := 4) rfl rfl (by decide) rfl (fun ls hl => ?_)
            refine lv_goto (tgt := 12) hx hb dX3_partFits_73 (by decide) ?_
            exact ih12 x1 x2 (x3 + 1) _ _ _ _ h hW (lv_sub hl [2, 3, 4, 0] rfl)
          · have h := ifn q10 h
            refine lv_aload_n hx hb dX3_partFits_54 rfl (lv_at hl 1 rfl) ?_
            refine lv_iload_n hx hb dX3_partFits_55 rfl (lv_at hl 4 rfl) ?_
            refine lv_iload_n hx hb dX3_partFits_56 rfl (lv_at hl 3 rfl) ?_
            refine lv_iload hx hb dX3_partFits_57 (lv_at hl 0 rfl) ?_
            obtain ⟨r11, hc13, h⟩ := bq_some h
            refine cV_i (ci := 3) (q0 := 26) (rest := []) hF hW mw_X3_104 (c_X3_parted l K a d hc13) ⟨Nat.le_of_ble_eq_true rfl, Nat.le_of_ble_eq_true rfl⟩ rfl rfl (pC_26 K a d _) rfl hl.1 rfl (Nat.le_of_ble_eq_true rfl) dX3_partFits_59 ⟨Nat.le_of_ble_eq_true rfl, Nat.le_of_ble_eq_true rfl⟩ (fun _ H locs hW => ?_)
            obtain ⟨r14, hc16, h⟩ := bq_some h
            refine cSN_i (rest := []) hF hW mn_X3_83 (c_X11_rowNumberFits l K hc16) ⟨Nat.le_of_ble_eq_true rfl, Nat.le_of_ble_eq_true rfl⟩ rfl hl.1 rfl (Nat.le_of_ble_eq_true rfl) dX3_partFits_62 ⟨Nat.le_of_ble_eq_true rfl, Nat.le_of_ble_eq_true rfl⟩ (fun _ H locs hW => ?_)
            refine lz_ne (tgt := 70) hx hb dX3_partFits_65 (by decide) (fun q17 => ?_) (fun q17 => ?_)
            · have h := ifp q17 h
              refine lv_iinc (v := (x3 + 1)) (lv' := [(3, .int (x3 + 1)), (4, .int r7), (0, .ref (a 26)), (1, .int x1), (2, .int x2)]) hx hb dX3_partFits_70 hl (k := 4) rfl rfl (by decide) rfl (fun ls hl => ?_)
              refine lv_goto (tgt := 12) hx hb dX3_partFits_73 (by decide) ?_
              exact ih12 x1 x2 (x3 + 1) _ _ _ _ h hW (lv_sub hl [2, 3, 4, 0] rfl)
            · have h := ifn q17 h
              refine lv_iconst (v := 0) hx hb dX3_partFits_68 (by decide) ?_
              obtain rfl := Option.some.inj h
              exact rt_i hF hr hk (bI_n false) (fun _ => 0) hW rfl dX3_partFits_69
        · have h := ifn q6 h
          refine lv_goto (tgt := 70) hx hb dX3_partFits_35 (by decide) ?_
          refine lv_iinc (v := (x3 + 1)) (lv' := [(3, .int (x3 + 1)), (0, .ref (a 26)), (1, .int x1), (2, .int x2)]) hx hb dX3_partFits_70 hl (k := 3) rfl rfl (by decide) rfl (fun ls hl => ?_)
          refine lv_goto (tgt := 12) hx hb dX3_partFits_73 (by decide) ?_
          exact ih12 x1 x2 (x3 + 1) _ _ _ _ h hW (lv_sub hl [1, 2, 3, 0] rfl)
  unfold f_X3_partFits at h
  refine lv_aload_n hx hb dX3_partFits_0 rfl (lv_at hl 0 rfl) ?_
  refine g_X3_32 hF hW dX3_partFits_1 ?_
  refine g_X3_45 hF hW dX3_partFits_4 ?_
  refine lv_iload_n hx hb dX3_partFits_7 rfl (lv_at hl 1 rfl) ?_
  obtain ⟨q1, h⟩ := ck_some h
  refine w_ild hF hW (pC_11 K a d _) q1 dX3_partFits_8 ?_
  refine lv_istore_n (lv' := [(2, .int (M.1 11 x1.toNatClampNeg)), (0, .ref (a 26)), (1, .int x1)]) hx hb dX3_partFits_9 rfl hl (by decide) rfl (fun ls hl => ?_)
  refine lv_iconst (v := 0) hx hb dX3_partFits_10 (by decide) ?_
  refine lv_istore_n (lv' := [(3, .int 0), (2, .int (M.1 11 x1.toNatClampNeg)), (0, .ref (a 26)), (1, .int x1)]) hx hb dX3_partFits_11 rfl hl (by decide) rfl (fun ls hl => ?_)
  exact J12 100000 x1 (M.1 11 x1.toNatClampNeg) 0 _ _ _ _ h hW (lv_sub hl [2, 3, 1, 0] rfl)
set_option maxRecDepth 100000 in
set_option maxHeartbeats 1000000 in
theorem c_X11_tooMany (l : Launch) (K : Kx) (a d : Nat → Nat) {M M0 : Mem}  {r0 : Bool} (h : f_X11_tooMany M = some (r0, M0)) : CMi l yX11_tooMany cX11_tooMany 1 (some .boolean) ({ frames := 542, cells := 0, slots := 0, locals := 27044 } : Room) K [.ref (a 0)] (wC K a d M) (fun _ => wC K a d M0) (bI r0) := by
  refine cs_i (by decide +kernel) (Nat.le_of_ble_eq_true rfl) ?_
  intro p e s m args below meth c A ls hF hr hk hnm hW hl
  have hx := hF.1
  have hb := hF.2.1
  have hl : lv_has ls 1 [(0, .ref (a 0))] := hl
  obtain ⟨H, hH⟩ : ∃ z, z = s.heap := ⟨_, rfl⟩
  rw [← hH] at hW ⊢
  unfold f_X11_tooMany at h
  refine lv_aload_n hx hb dX11_tooMany_0 rfl (lv_at hl 0 rfl) ?_
  refine g_X11_54 hF hW dX11_tooMany_1 ?_
  obtain ⟨M2, hc3, h⟩ := bm_some h
  refine cV_v (ci := 0) (q0 := 34) (rest := []) hF hW mw_X11_444 (c_X0_refresh l K a d hc3) ⟨Nat.le_of_ble_eq_true rfl, Nat.le_of_ble_eq_true rfl⟩ rfl rfl (pC_34 K a d _) rfl hl.1 rfl (Nat.le_of_ble_eq_true rfl) dX11_tooMany_4 ⟨Nat.le_of_ble_eq_true rfl, Nat.le_of_ble_eq_true rfl⟩ (fun _ H locs hW => ?_)
  refine lv_aload_n hx hb dX11_tooMany_7 rfl (lv_at hl 0 rfl) ?_
  refine g_X11_54 hF hW dX11_tooMany_8 ?_
  refine g_X11_445 hF hW dX11_tooMany_11 ?_
  obtain ⟨rfl, rfl⟩ := Prod.mk.inj (Option.some.inj h)
  exact rt_i hF hr hk (bI_n _) (fun _ => 0) hW rfl dX11_tooMany_14
set_option maxRecDepth 100000 in
set_option maxHeartbeats 1000000 in
theorem c_X11_visits (l : Launch) (K : Kx) (a d : Nat → Nat) {M M0 : Mem}  {r0 : Int32} (h : f_X11_visits M = some (r0, M0)) : CMi l yX11_visits cX11_visits 1 (some .int) ({ frames := 543, cells := 0, slots := 0, locals := 27064 } : Room) K [.ref (a 0)] (wC K a d M) (fun _ => wC K a d M0) r0 := by
  refine cs_i (by decide +kernel) (Nat.le_of_ble_eq_true rfl) ?_
  intro p e s m args below meth c A ls hF hr hk hnm hW hl
  have hx := hF.1
  have hb := hF.2.1
  have hl : lv_has ls 1 [(0, .ref (a 0))] := hl
  obtain ⟨H, hH⟩ : ∃ z, z = s.heap := ⟨_, rfl⟩
  rw [← hH] at hW ⊢
  unfold f_X11_visits at h
  refine lv_aload_n hx hb dX11_visits_0 rfl (lv_at hl 0 rfl) ?_
  obtain ⟨r1, M2, hc3, h⟩ := bd_some h
  refine cV_i (ci := 11) (q0 := 0) (rest := []) hF hW mw_X11_244 (c_X11_tooMany l K a d hc3) ⟨Nat.le_of_ble_eq_true rfl, Nat.le_of_ble_eq_true rfl⟩ rfl rfl (pC_0 K a d _) rfl hl.1 rfl (Nat.le_of_ble_eq_true rfl) dX11_visits_1 ⟨Nat.le_of_ble_eq_true rfl, Nat.le_of_ble_eq_true rfl⟩ (fun _ H locs hW => ?_)
  refine lz_eq (tgt := 12) hx hb dX11_visits_4 (by decide) (fun q4 => ?_) (fun q4 => ?_)
  · have h := ifn q4 h
    refine lv_aload_n hx hb dX11_visits_12 rfl (lv_at hl 0 rfl) ?_
    refine g_X11_54 hF hW dX11_visits_13 ?_
    refine g_X11_248 hF hW dX11_visits_16 ?_
    obtain ⟨rfl, rfl⟩ := Prod.mk.inj (Option.some.inj h)
    exact rt_i hF hr hk rfl (fun _ => 0) hW rfl dX11_visits_19
  · have h := ifp q4 h
    refine lv_bipush (v := (-6)) hx hb dX11_visits_7 (by decide) ?_
    refine lv_goto (tgt := 19) hx hb dX11_visits_9 (by decide) ?_
    obtain ⟨rfl, rfl⟩ := Prod.mk.inj (Option.some.inj h)
    exact rt_i hF hr hk rfl (fun _ => 0) hW rfl dX11_visits_19
set_option maxRecDepth 100000 in
set_option maxHeartbeats 1000000 in
theorem c_X11_visit (l : Launch) (K : Kx) (a d : Nat → Nat) {M M0 : Mem} {x1 : Int32} {x2 : Int32} {x3 : Bool} {r0 : Int32} (h : f_X11_visit M x1 x2 x3 = some (r0, M0)) : CMi l yX11_visit cX11_visit 5 (some .int) ({ frames := 543, cells := 0, slots := 0, locals := 27064 } : Room) K [.ref (a 0), .int x1, .int x2, .int (bI x3)] (wC K a d M) (fun _ => wC K a d M0) r0 := by
  refine cs_i (by decide +kernel) (Nat.le_of_ble_eq_true rfl) ?_
  intro p e s m args below meth c A ls hF hr hk hnm hW hl
  have hx := hF.1
  have hb := hF.2.1
  have hl : lv_has ls 5 [(0, .ref (a 0)), (1, .int x1), (2, .int x2), (3, .int (bI x3))] := hl
  obtain ⟨H, hH⟩ : ∃ z, z = s.heap := ⟨_, rfl⟩
  rw [← hH] at hW ⊢
  unfold f_X11_visit at h
  refine lv_iload_n hx hb dX11_visit_0 rfl (lv_at hl 2 rfl) ?_
  refine lv_iconst (v := 0) hx hb dX11_visit_1 (by decide) ?_
  refine lv_iconst (v := 4) hx hb dX11_visit_2 (by decide) ?_
  obtain ⟨r1, hc3, h⟩ := bq_some h
  refine cS_i (rest := []) hF hW mw_X11_113 (c_X11_within l K hc3) ⟨Nat.le_of_ble_eq_true rfl, Nat.le_of_ble_eq_true rfl⟩ rfl hl.1 rfl (Nat.le_of_ble_eq_true rfl) dX11_visit_3 ⟨Nat.le_of_ble_eq_true rfl, Nat.le_of_ble_eq_true rfl⟩ (fun _ H locs hW => ?_)
  refine lz_ne (tgt := 11) hx hb dX11_visit_6 (by decide) (fun q4 => ?_) (fun q4 => ?_)
  · have h := ifp q4 h
    refine lv_aload_n hx hb dX11_visit_11 rfl (lv_at hl 0 rfl) ?_
    obtain ⟨r5, M6, hc7, h⟩ := bd_some h
    refine cV_i (ci := 11) (q0 := 0) (rest := []) hF hW mw_X11_244 (c_X11_tooMany l K a d hc7) ⟨Nat.le_of_ble_eq_true rfl, Nat.le_of_ble_eq_true rfl⟩ rfl rfl (pC_0 K a d _) rfl hl.1 rfl (Nat.le_of_ble_eq_true rfl) dX11_visit_12 ⟨Nat.le_of_ble_eq_true rfl, Nat.le_of_ble_eq_true rfl⟩ (fun _ H locs hW => ?_)
    refine lz_eq (tgt := 21) hx hb dX11_visit_15 (by decide) (fun q8 => ?_) (fun q8 => ?_)
    · have h := ifn q8 h
      refine lv_iload_n hx hb dX11_visit_21 rfl (lv_at hl 1 rfl) ?_
      refine lv_iconst (v := 0) hx hb dX11_visit_22 (by decide) ?_
      refine lv_aload_n hx hb dX11_visit_23 rfl (lv_at hl 0 rfl) ?_
      refine g_X11_54 hF hW dX11_visit_24 ?_
      refine g_X11_248 hF hW dX11_visit_27 ?_
      refine lv_iconst (v := 1) hx hb dX11_visit_30 (by decide) ?_
      refine lv_isub hx hb dX11_visit_31 ?_
      obtain ⟨r9, hc11, h⟩ := bq_some h
      refine cS_i (rest := []) hF hW mw_X11_113 (c_X11_within l K hc11) ⟨Nat.le_of_ble_eq_true rfl, Nat.le_of_ble_eq_true rfl⟩ rfl hl.1 rfl (Nat.le_of_ble_eq_true rfl) dX11_visit_32 ⟨Nat.le_of_ble_eq_true rfl, Nat.le_of_ble_eq_true rfl⟩ (fun _ H locs hW => ?_)
      refine lz_ne (tgt := 41) hx hb dX11_visit_35 (by decide) (fun q12 => ?_) (fun q12 => ?_)
      · have h := ifp q12 h
        refine lv_aload_n hx hb dX11_visit_41 rfl (lv_at hl 0 rfl) ?_
        refine lv_iload_n hx hb dX11_visit_42 rfl (lv_at hl 1 rfl) ?_
        refine lv_iload_n hx hb dX11_visit_43 rfl (lv_at hl 3 rfl) ?_
        obtain ⟨r13, M14, hc15, h⟩ := bd_some h
        refine cV_i (ci := 11) (q0 := 0) (rest := []) hF hW mw_X11_249 (c_X11_visitAt l K a d hc15) ⟨Nat.le_of_ble_eq_true rfl, Nat.le_of_ble_eq_true rfl⟩ rfl rfl (pC_0 K a d _) rfl hl.1 rfl (Nat.le_of_ble_eq_true rfl) dX11_visit_44 ⟨Nat.le_of_ble_eq_true rfl, Nat.le_of_ble_eq_true rfl⟩ (fun _ H locs hW => ?_)
        refine lv_istore (lv' := [(4, .int r13), (0, .ref (a 0)), (1, .int x1), (2, .int x2), (3, .int (bI x3))]) hx hb dX11_visit_47 hl (by decide) rfl (fun ls hl => ?_)
        refine lv_iload_n hx hb dX11_visit_49 rfl (lv_at hl 3 rfl) ?_
        refine lv_if_ne (tgt := 65) hx hb dX11_visit_50 (by decide) (fun q16 => ?_) (fun q16 => ?_)
        · have h := ifn q16 h
          refine lv_ldc2 hx hb hF.2.2.2.1 (hF.2.2.1 _ kl_X11_256) dX11_visit_65 ?_
          refine lv_aload_n hx hb dX11_visit_68 rfl (lv_at hl 1 rfl) ?_
          refine g_X11_54 hF hW dX11_visit_69 ?_
          refine lv_iload hx hb dX11_visit_72 (lv_at hl 0 rfl) ?_
          refine lv_iload_n hx hb dX11_visit_74 rfl (lv_at hl 3 rfl) ?_
          refine lv_iconst (v := 1) hx hb dX11_visit_75 (by decide) ?_
          refine lv_isub hx hb dX11_visit_76 ?_
          obtain ⟨r17, hc19, h⟩ := bq_some h
          refine cV_l (ci := 0) (q0 := 34) (rest := [.long 100000]) hF hW mw_X11_258 (c_X0_letter l K a d hc19) ⟨Nat.le_of_ble_eq_true rfl, Nat.le_of_ble_eq_true rfl⟩ rfl rfl (pC_34 K a d _) rfl hl.1 rfl (Nat.le_of_ble_eq_true rfl) dX11_visit_77 ⟨Nat.le_of_ble_eq_true rfl, Nat.le_of_ble_eq_true rfl⟩ (fun _ H locs hW => ?_)
          refine lv_ladd hx hb dX11_visit_80 ?_
          refine lv_l2i hx hb dX11_visit_81 rfl ?_
          obtain ⟨rfl, rfl⟩ := Prod.mk.inj (Option.some.inj h)
          exact rt_i hF hr hk rfl (fun _ => 0) hW rfl dX11_visit_82
        · have h := ifp q16 h
          refine lv_aload_n hx hb dX11_visit_53 rfl (lv_at hl 1 rfl) ?_
          refine g_X11_54 hF hW dX11_visit_54 ?_
          refine lv_iload hx hb dX11_visit_57 (lv_at hl 0 rfl) ?_
          obtain ⟨r20, hc22, h⟩ := bq_some h
          refine cV_i (ci := 0) (q0 := 34) (rest := []) hF hW mw_X11_253 (c_X0_actNode l K a d hc22) ⟨Nat.le_of_ble_eq_true rfl, Nat.le_of_ble_eq_true rfl⟩ rfl rfl (pC_34 K a d _) rfl hl.1 rfl (Nat.le_of_ble_eq_true rfl) dX11_visit_59 ⟨Nat.le_of_ble_eq_true rfl, Nat.le_of_ble_eq_true rfl⟩ (fun _ H locs hW => ?_)
          refine lv_goto (tgt := 82) hx hb dX11_visit_62 (by decide) ?_
          obtain ⟨rfl, rfl⟩ := Prod.mk.inj (Option.some.inj h)
          exact rt_i hF hr hk rfl (fun _ => 0) hW rfl dX11_visit_82
      · have h := ifn q12 h
        refine lv_bipush (v := (-9)) hx hb dX11_visit_38 (by decide) ?_
        obtain ⟨rfl, rfl⟩ := Prod.mk.inj (Option.some.inj h)
        exact rt_i hF hr hk rfl (fun _ => 0) hW rfl dX11_visit_40
    · have h := ifp q8 h
      refine lv_bipush (v := (-6)) hx hb dX11_visit_18 (by decide) ?_
      obtain ⟨rfl, rfl⟩ := Prod.mk.inj (Option.some.inj h)
      exact rt_i hF hr hk rfl (fun _ => 0) hW rfl dX11_visit_20
  · have h := ifn q4 h
    refine lv_iconst (v := (-1)) hx hb dX11_visit_9 (by decide) ?_
    obtain ⟨rfl, rfl⟩ := Prod.mk.inj (Option.some.inj h)
    exact rt_i hF hr hk rfl (fun _ => 0) hW rfl dX11_visit_10
set_option maxRecDepth 100000 in
set_option maxHeartbeats 1000000 in
theorem c_X11_has (l : Launch) (K : Kx) (a d : Nat → Nat) {M M0 : Mem} {x1 : Int32} {x2 : Int32} {x3 : Int32} {x4 : Int32} {x5 : Int32} {r0 : Int32} (h : f_X11_has M x1 x2 x3 x4 x5 = some (r0, M0)) : CMi l yX11_has cX11_has 7 (some .int) ({ frames := 543, cells := 0, slots := 0, locals := 27064 } : Room) K [.ref (a 0), .int x1, .int x2, .int x3, .int x4, .int x5] (wC K a d M) (fun _ => wC K a d M0) r0 := by
  refine cs_i (by decide +kernel) (Nat.le_of_ble_eq_true rfl) ?_
  intro p e s m args below meth c A ls hF hr hk hnm hW hl
  have hx := hF.1
  have hb := hF.2.1
  have hl : lv_has ls 7 [(0, .ref (a 0)), (1, .int x1), (2, .int x2), (3, .int x3), (4, .int x4), (5, .int x5)] := hl
  obtain ⟨H, hH⟩ : ∃ z, z = s.heap := ⟨_, rfl⟩
  rw [← hH] at hW ⊢
  have J43 : ∀ (n43 : Nat) (x1 : Int32) (x2 : Int32) (x3 : Int32) (x4 : Int32) (x5 : Int32) (x6 : Int32) (M : Mem) (H : Heap) (locs : List Loc) (ls : Array Slot), f_X11_has_43 n43 x1 x2 x3 x4 x5 x6 M = some (r0, M0) → Wd K A s (wC K a d M) H locs → lv_has ls 7 [(0, .ref (a 0)), (1, .int x1), (2, .int x2), (3, .int x3), (4, .int x4), (5, .int x5), (6, .int x6)] → W p l e ({ frames := 543, cells := 0, slots := 0, locals := 27064 } : Room) s m args below meth c H locs 0 0 (EndI K A (fun _ => wC K a d M0) r0 below args s ({ frames := 543, cells := 0, slots := 0, locals := 27064 } : Room)) (F0 m 43 ls []) := by
    intro n43
    induction n43 with
    | zero => intro x1 x2 x3 x4 x5 x6 M H locs ls h; exact absurd h (by simp [f_X11_has_43])
    | succ n43 ih43 =>
      intro x1 x2 x3 x4 x5 x6 M H locs ls h hW hl
      rw [f_X11_has_43] at h
      refine lv_iload hx hb dX11_has_43 (lv_at hl 6 rfl) ?_
      refine lv_aload_n hx hb dX11_has_45 rfl (lv_at hl 0 rfl) ?_
      refine g_X11_54 hF hW dX11_has_46 ?_
      refine g_X11_248 hF hW dX11_has_49 ?_
      refine lv_icmp_ge (tgt := 94) hx hb dX11_has_52 (by decide) (fun q16 => ?_) (fun q16 => ?_)
      · have h := ifp q16 h
        refine lv_iconst (v := 0) hx hb dX11_has_94 (by decide) ?_
        obtain ⟨rfl, rfl⟩ := Prod.mk.inj (Option.some.inj h)
        exact rt_i hF hr hk rfl (fun _ => 0) hW rfl dX11_has_95
      · have h := ifn q16 h
        refine lv_aload_n hx hb dX11_has_55 rfl (lv_at hl 0 rfl) ?_
        refine g_X11_54 hF hW dX11_has_56 ?_
        refine lv_iload hx hb dX11_has_59 (lv_at hl 6 rfl) ?_
        obtain ⟨r17, hc19, h⟩ := bq_some h
        refine cV_i (ci := 0) (q0 := 34) (rest := []) hF hW mw_X11_253 (c_X0_actNode l K a d hc19) ⟨Nat.le_of_ble_eq_true rfl, Nat.le_of_ble_eq_true rfl⟩ rfl rfl (pC_34 K a d _) rfl hl.1 rfl (Nat.le_of_ble_eq_true rfl) dX11_has_61 ⟨Nat.le_of_ble_eq_true rfl, Nat.le_of_ble_eq_true rfl⟩ (fun _ H locs hW => ?_)
        refine lv_iload_n hx hb dX11_has_64 rfl (lv_at hl 1 rfl) ?_
        refine lv_icmp_ne (tgt := 88) hx hb dX11_has_65 (by decide) (fun q20 => ?_) (fun q20 => ?_)
        · have h := ifn q20 h
          refine lv_iinc (v := (x6 + 1)) (lv' := [(6, .int (x6 + 1)), (0, .ref (a 0)), (1, .int x1), (2, .int x2), (3, .int x3), (4, .int x4), (5, .int x5)]) hx hb dX11_has_88 hl (k := 6) rfl rfl (by decide) rfl (fun ls hl => ?_)
          refine lv_goto (tgt := 43) hx hb dX11_has_91 (by decide) ?_
          exact ih43 x1 x2 x3 x4 x5 (x6 + 1) _ _ _ _ h hW (lv_sub hl [1, 2, 3, 4, 5, 6, 0] rfl)
        · have h := ifp q20 h
          refine lv_aload_n hx hb dX11_has_68 rfl (lv_at hl 0 rfl) ?_
          refine g_X11_54 hF hW dX11_has_69 ?_
          refine lv_iload hx hb dX11_has_72 (lv_at hl 6 rfl) ?_
          refine lv_iload_n hx hb dX11_has_74 rfl (lv_at hl 2 rfl) ?_
          refine lv_iload_n hx hb dX11_has_75 rfl (lv_at hl 3 rfl) ?_
          refine lv_iload hx hb dX11_has_76 (lv_at hl 4 rfl) ?_
          refine lv_iload hx hb dX11_has_78 (lv_at hl 5 rfl) ?_
          obtain ⟨r21, hc23, h⟩ := bq_some h
          refine cV_i (ci := 0) (q0 := 34) (rest := []) hF hW mw_X11_261 (c_X0_isAt l K a d hc23) ⟨Nat.le_of_ble_eq_true rfl, Nat.le_of_ble_eq_true rfl⟩ rfl rfl (pC_34 K a d _) rfl hl.1 rfl (Nat.le_of_ble_eq_true rfl) dX11_has_80 ⟨Nat.le_of_ble_eq_true rfl, Nat.le_of_ble_eq_true rfl⟩ (fun _ H locs hW => ?_)
          refine lz_eq (tgt := 88) hx hb dX11_has_83 (by decide) (fun q24 => ?_) (fun q24 => ?_)
          · have h := ifn q24 h
            refine lv_iinc (v := (x6 + 1)) (lv' := [(6, .int (x6 + 1)), (0, .ref (a 0)), (1, .int x1), (2, .int x2), (3, .int x3), (4, .int x4), (5, .int x5)]) hx hb dX11_has_88 hl (k := 6) rfl rfl (by decide) rfl (fun ls hl => ?_)
            refine lv_goto (tgt := 43) hx hb dX11_has_91 (by decide) ?_
            exact ih43 x1 x2 x3 x4 x5 (x6 + 1) _ _ _ _ h hW (lv_sub hl [1, 2, 3, 4, 5, 6, 0] rfl)
          · have h := ifp q24 h
            refine lv_iconst (v := 1) hx hb dX11_has_86 (by decide) ?_
            obtain ⟨rfl, rfl⟩ := Prod.mk.inj (Option.some.inj h)
            exact rt_i hF hr hk rfl (fun _ => 0) hW rfl dX11_has_87
  unfold f_X11_has at h
  refine lv_aload_n hx hb dX11_has_0 rfl (lv_at hl 0 rfl) ?_
  refine g_X11_19 hF hW dX11_has_1 ?_
  refine lv_iload_n hx hb dX11_has_4 rfl (lv_at hl 1 rfl) ?_
  obtain ⟨r1, hc3, h⟩ := bq_some h
  refine cV_i (ci := 2) (q0 := 5) (rest := []) hF hW mw_X11_152 (c_X2_known l K a d hc3) ⟨Nat.le_of_ble_eq_true rfl, Nat.le_of_ble_eq_true rfl⟩ rfl rfl (pC_5 K a d _) rfl hl.1 rfl (Nat.le_of_ble_eq_true rfl) dX11_has_5 ⟨Nat.le_of_ble_eq_true rfl, Nat.le_of_ble_eq_true rfl⟩ (fun _ H locs hW => ?_)
  refine lz_ne (tgt := 13) hx hb dX11_has_8 (by decide) (fun q4 => ?_) (fun q4 => ?_)
  · have h := ifp q4 h
    refine lv_aload_n hx hb dX11_has_13 rfl (lv_at hl 0 rfl) ?_
    obtain ⟨r5, M6, hc7, h⟩ := bd_some h
    refine cV_i (ci := 11) (q0 := 0) (rest := []) hF hW mw_X11_244 (c_X11_tooMany l K a d hc7) ⟨Nat.le_of_ble_eq_true rfl, Nat.le_of_ble_eq_true rfl⟩ rfl rfl (pC_0 K a d _) rfl hl.1 rfl (Nat.le_of_ble_eq_true rfl) dX11_has_14 ⟨Nat.le_of_ble_eq_true rfl, Nat.le_of_ble_eq_true rfl⟩ (fun _ H locs hW => ?_)
    refine lz_eq (tgt := 23) hx hb dX11_has_17 (by decide) (fun q8 => ?_) (fun q8 => ?_)
    · have h := ifn q8 h
      refine lv_aload_n hx hb dX11_has_23 rfl (lv_at hl 0 rfl) ?_
      refine g_X11_19 hF hW dX11_has_24 ?_
      refine lv_iload_n hx hb dX11_has_27 rfl (lv_at hl 1 rfl) ?_
      obtain ⟨r9, hc11, h⟩ := bq_some h
      refine cV_i (ci := 2) (q0 := 5) (rest := []) hF hW mw_X11_160 (c_X2_isAct l K a d hc11) ⟨Nat.le_of_ble_eq_true rfl, Nat.le_of_ble_eq_true rfl⟩ rfl rfl (pC_5 K a d _) rfl hl.1 rfl (Nat.le_of_ble_eq_true rfl) dX11_has_28 ⟨Nat.le_of_ble_eq_true rfl, Nat.le_of_ble_eq_true rfl⟩ (fun _ H locs hW => ?_)
      refine lz_ne (tgt := 40) hx hb dX11_has_31 (by decide) (fun q12 => ?_) (fun q12 => ?_)
      · have h := ifp q12 h
        refine lv_iconst (v := 0) hx hb dX11_has_40 (by decide) ?_
        refine lv_istore (lv' := [(6, .int 0), (0, .ref (a 0)), (1, .int x1), (2, .int x2), (3, .int x3), (4, .int x4), (5, .int x5)]) hx hb dX11_has_41 hl (by decide) rfl (fun ls hl => ?_)
        exact J43 100000 x1 x2 x3 x4 x5 0 _ _ _ _ h hW (lv_sub hl [1, 2, 3, 4, 5, 6, 0] rfl)
      · have h := ifn q12 h
        refine lv_aload_n hx hb dX11_has_34 rfl (lv_at hl 0 rfl) ?_
        refine lv_iconst (v := 3) hx hb dX11_has_35 (by decide) ?_
        obtain ⟨r13, M14, hc15, h⟩ := bd_some h
        refine cV_i (ci := 11) (q0 := 0) (rest := []) hF hW mw_X11_163 (c_X11_meet l K a d hc15) ⟨Nat.le_of_ble_eq_true rfl, Nat.le_of_ble_eq_true rfl⟩ rfl rfl (pC_0 K a d _) rfl hl.1 rfl (Nat.le_of_ble_eq_true rfl) dX11_has_36 ⟨Nat.le_of_ble_eq_true rfl, Nat.le_of_ble_eq_true rfl⟩ (fun _ H locs hW => ?_)
        obtain ⟨rfl, rfl⟩ := Prod.mk.inj (Option.some.inj h)
        exact rt_i hF hr hk rfl (fun _ => 0) hW rfl dX11_has_39
    · have h := ifp q8 h
      refine lv_bipush (v := (-6)) hx hb dX11_has_20 (by decide) ?_
      obtain ⟨rfl, rfl⟩ := Prod.mk.inj (Option.some.inj h)
      exact rt_i hF hr hk rfl (fun _ => 0) hW rfl dX11_has_22
  · have h := ifn q4 h
    refine lv_iconst (v := (-1)) hx hb dX11_has_11 (by decide) ?_
    obtain ⟨rfl, rfl⟩ := Prod.mk.inj (Option.some.inj h)
    exact rt_i hF hr hk rfl (fun _ => 0) hW rfl dX11_has_12
set_option maxRecDepth 100000 in
set_option maxHeartbeats 1000000 in
theorem c_X11_points (l : Launch) (K : Kx) (a d : Nat → Nat) {M M0 : Mem} {x1 : Int32} {r0 : Int32} (h : f_X11_points M x1 = some (r0, M0)) : CMi l yX11_points cX11_points 4 (some .int) ({ frames := 543, cells := 0, slots := 0, locals := 27064 } : Room) K [.ref (a 0), .int x1] (wC K a d M) (fun _ => wC K a d M0) r0 := by
  refine cs_i (by decide +kernel) (Nat.le_of_ble_eq_true rfl) ?_
  intro p e s m args below meth c A ls hF hr hk hnm hW hl
  have hx := hF.1
  have hb := hF.2.1
  have hl : lv_has ls 4 [(0, .ref (a 0)), (1, .int x1)] := hl
  obtain ⟨H, hH⟩ : ∃ z, z = s.heap := ⟨_, rfl⟩
  rw [← hH] at hW ⊢
  have J44 : ∀ (n44 : Nat) (x1 : Int32) (x2 : Int32) (x3 : Int32) (M : Mem) (H : Heap) (locs : List Loc) (ls : Array Slot), f_X11_points_44 n44 x1 x2 x3 M = some (r0, M0) → Wd K A s (wC K a d M) H locs → lv_has ls 4 [(0, .ref (a 0)), (1, .int x1), (2, .int x2), (3, .int x3)] → W p l e ({ frames := 543, cells := 0, slots := 0, locals := 27064 } : Room) s m args below meth c H locs 0 0 (EndI K A (fun _ => wC K a d M0) r0 below args s ({ frames := 543, cells := 0, slots := 0, locals := 27064 } : Room)) (F0 m 44 ls []) := by
    intro n44
    induction n44 with
    | zero => intro x1 x2 x3 M H locs ls h; exact absurd h (by simp [f_X11_points_44])
    | succ n44 ih44 =>
      intro x1 x2 x3 M H locs ls h hW hl
      rw [f_X11_points_44] at h
      refine lv_iload_n hx hb dX11_points_44 rfl (lv_at hl 3 rfl) ?_
      refine lv_aload_n hx hb dX11_points_45 rfl (lv_at hl 0 rfl) ?_
      refine g_X11_54 hF hW dX11_points_46 ?_
      refine g_X11_248 hF hW dX11_points_49 ?_
      refine lv_icmp_ge (tgt := 76) hx hb dX11_points_52 (by decide) (fun q16 => ?_) (fun q16 => ?_)
      · have h := ifp q16 h
        refine lv_iload_n hx hb dX11_points_76 rfl (lv_at hl 2 rfl) ?_
        obtain ⟨rfl, rfl⟩ := Prod.mk.inj (Option.some.inj h)
        exact rt_i hF hr hk rfl (fun _ => 0) hW rfl dX11_points_77
      · have h := ifn q16 h
        refine lv_aload_n hx hb dX11_points_55 rfl (lv_at hl 0 rfl) ?_
        refine g_X11_54 hF hW dX11_points_56 ?_
        refine lv_iload_n hx hb dX11_points_59 rfl (lv_at hl 3 rfl) ?_
        obtain ⟨r17, hc19, h⟩ := bq_some h
        refine cV_i (ci := 0) (q0 := 34) (rest := []) hF hW mw_X11_253 (c_X0_actNode l K a d hc19) ⟨Nat.le_of_ble_eq_true rfl, Nat.le_of_ble_eq_true rfl⟩ rfl rfl (pC_34 K a d _) rfl hl.1 rfl (Nat.le_of_ble_eq_true rfl) dX11_points_60 ⟨Nat.le_of_ble_eq_true rfl, Nat.le_of_ble_eq_true rfl⟩ (fun _ H locs hW => ?_)
        refine lv_iload_n hx hb dX11_points_63 rfl (lv_at hl 1 rfl) ?_
        refine lv_icmp_ne (tgt := 70) hx hb dX11_points_64 (by decide) (fun q20 => ?_) (fun q20 => ?_)
        · have h := ifn q20 h
          refine lv_iinc (v := (x3 + 1)) (lv' := [(3, .int (x3 + 1)), (0, .ref (a 0)), (1, .int x1), (2, .int x2)]) hx hb dX11_points_70 hl (k := 3) rfl rfl (by decide) rfl (fun ls hl => ?_)
          refine lv_goto (tgt := 44) hx hb dX11_points_73 (by decide) ?_
          exact ih44 x1 x2 (x3 + 1) _ _ _ _ h hW (lv_sub hl [1, 2, 3, 0] rfl)
        · have h := ifp q20 h
          refine lv_iinc (v := (x2 + 1)) (lv' := [(2, .int (x2 + 1)), (0, .ref (a 0)), (1, .int x1), (3, .int x3)]) hx hb dX11_points_67 hl (k := 2) rfl rfl (by decide) rfl (fun ls hl => ?_)
          refine lv_iinc (v := (x3 + 1)) (lv' := [(3, .int (x3 + 1)), (2, .int (x2 + 1)), (0, .ref (a 0)), (1, .int x1)]) hx hb dX11_points_70 hl (k := 3) rfl rfl (by decide) rfl (fun ls hl => ?_)
          refine lv_goto (tgt := 44) hx hb dX11_points_73 (by decide) ?_
          exact ih44 x1 (x2 + 1) (x3 + 1) _ _ _ _ h hW (lv_sub hl [2, 3, 1, 0] rfl)
  unfold f_X11_points at h
  refine lv_aload_n hx hb dX11_points_0 rfl (lv_at hl 0 rfl) ?_
  refine g_X11_19 hF hW dX11_points_1 ?_
  refine lv_iload_n hx hb dX11_points_4 rfl (lv_at hl 1 rfl) ?_
  obtain ⟨r1, hc3, h⟩ := bq_some h
  refine cV_i (ci := 2) (q0 := 5) (rest := []) hF hW mw_X11_152 (c_X2_known l K a d hc3) ⟨Nat.le_of_ble_eq_true rfl, Nat.le_of_ble_eq_true rfl⟩ rfl rfl (pC_5 K a d _) rfl hl.1 rfl (Nat.le_of_ble_eq_true rfl) dX11_points_5 ⟨Nat.le_of_ble_eq_true rfl, Nat.le_of_ble_eq_true rfl⟩ (fun _ H locs hW => ?_)
  refine lz_ne (tgt := 13) hx hb dX11_points_8 (by decide) (fun q4 => ?_) (fun q4 => ?_)
  · have h := ifp q4 h
    refine lv_aload_n hx hb dX11_points_13 rfl (lv_at hl 0 rfl) ?_
    obtain ⟨r5, M6, hc7, h⟩ := bd_some h
    refine cV_i (ci := 11) (q0 := 0) (rest := []) hF hW mw_X11_244 (c_X11_tooMany l K a d hc7) ⟨Nat.le_of_ble_eq_true rfl, Nat.le_of_ble_eq_true rfl⟩ rfl rfl (pC_0 K a d _) rfl hl.1 rfl (Nat.le_of_ble_eq_true rfl) dX11_points_14 ⟨Nat.le_of_ble_eq_true rfl, Nat.le_of_ble_eq_true rfl⟩ (fun _ H locs hW => ?_)
    refine lz_eq (tgt := 23) hx hb dX11_points_17 (by decide) (fun q8 => ?_) (fun q8 => ?_)
    · have h := ifn q8 h
      refine lv_aload_n hx hb dX11_points_23 rfl (lv_at hl 0 rfl) ?_
      refine g_X11_19 hF hW dX11_points_24 ?_
      refine lv_iload_n hx hb dX11_points_27 rfl (lv_at hl 1 rfl) ?_
      obtain ⟨r9, hc11, h⟩ := bq_some h
      refine cV_i (ci := 2) (q0 := 5) (rest := []) hF hW mw_X11_160 (c_X2_isAct l K a d hc11) ⟨Nat.le_of_ble_eq_true rfl, Nat.le_of_ble_eq_true rfl⟩ rfl rfl (pC_5 K a d _) rfl hl.1 rfl (Nat.le_of_ble_eq_true rfl) dX11_points_28 ⟨Nat.le_of_ble_eq_true rfl, Nat.le_of_ble_eq_true rfl⟩ (fun _ H locs hW => ?_)
      refine lz_ne (tgt := 40) hx hb dX11_points_31 (by decide) (fun q12 => ?_) (fun q12 => ?_)
      · have h := ifp q12 h
        refine lv_iconst (v := 0) hx hb dX11_points_40 (by decide) ?_
        refine lv_istore_n (lv' := [(2, .int 0), (0, .ref (a 0)), (1, .int x1)]) hx hb dX11_points_41 rfl hl (by decide) rfl (fun ls hl => ?_)
        refine lv_iconst (v := 0) hx hb dX11_points_42 (by decide) ?_
        refine lv_istore_n (lv' := [(3, .int 0), (2, .int 0), (0, .ref (a 0)), (1, .int x1)]) hx hb dX11_points_43 rfl hl (by decide) rfl (fun ls hl => ?_)
        exact J44 100000 x1 0 0 _ _ _ _ h hW (lv_sub hl [2, 3, 1, 0] rfl)
      · have h := ifn q12 h
        refine lv_aload_n hx hb dX11_points_34 rfl (lv_at hl 0 rfl) ?_
        refine lv_iconst (v := 3) hx hb dX11_points_35 (by decide) ?_
        obtain ⟨r13, M14, hc15, h⟩ := bd_some h
        refine cV_i (ci := 11) (q0 := 0) (rest := []) hF hW mw_X11_163 (c_X11_meet l K a d hc15) ⟨Nat.le_of_ble_eq_true rfl, Nat.le_of_ble_eq_true rfl⟩ rfl rfl (pC_0 K a d _) rfl hl.1 rfl (Nat.le_of_ble_eq_true rfl) dX11_points_36 ⟨Nat.le_of_ble_eq_true rfl, Nat.le_of_ble_eq_true rfl⟩ (fun _ H locs hW => ?_)
        obtain ⟨rfl, rfl⟩ := Prod.mk.inj (Option.some.inj h)
        exact rt_i hF hr hk rfl (fun _ => 0) hW rfl dX11_points_39
    · have h := ifp q8 h
      refine lv_bipush (v := (-6)) hx hb dX11_points_20 (by decide) ?_
      obtain ⟨rfl, rfl⟩ := Prod.mk.inj (Option.some.inj h)
      exact rt_i hF hr hk rfl (fun _ => 0) hW rfl dX11_points_22
  · have h := ifn q4 h
    refine lv_iconst (v := (-1)) hx hb dX11_points_11 (by decide) ?_
    obtain ⟨rfl, rfl⟩ := Prod.mk.inj (Option.some.inj h)
    exact rt_i hF hr hk rfl (fun _ => 0) hW rfl dX11_points_12
set_option maxRecDepth 100000 in
set_option maxHeartbeats 1000000 in
theorem c_X11_needs (l : Launch) (K : Kx) (a d : Nat → Nat) {M M0 : Mem} {x1 : Int32} {x2 : Int32} {x3 : Int32} {r0 : Int32} (h : f_X11_needs M x1 x2 x3 = some (r0, M0)) : CMi l yX11_needs cX11_needs 4 (some .int) ({ frames := 543, cells := 0, slots := 0, locals := 27064 } : Room) K [.ref (a 0), .int x1, .int x2, .int x3] (wC K a d M) (fun _ => wC K a d M0) r0 := by
  refine cs_i (by decide +kernel) (Nat.le_of_ble_eq_true rfl) ?_
  intro p e s m args below meth c A ls hF hr hk hnm hW hl
  have hx := hF.1
  have hb := hF.2.1
  have hl : lv_has ls 4 [(0, .ref (a 0)), (1, .int x1), (2, .int x2), (3, .int x3)] := hl
  obtain ⟨H, hH⟩ : ∃ z, z = s.heap := ⟨_, rfl⟩
  rw [← hH] at hW ⊢
  have J65 : ∀ (M : Mem) (H : Heap) (locs : List Loc) (ls : Array Slot), f_X11_needs_65 M = some (r0, M0) → Wd K A s (wC K a d M) H locs → lv_has ls 4 [(0, .ref (a 0))] → W p l e ({ frames := 543, cells := 0, slots := 0, locals := 27064 } : Room) s m args below meth c H locs 0 0 (EndI K A (fun _ => wC K a d M0) r0 below args s ({ frames := 543, cells := 0, slots := 0, locals := 27064 } : Room)) (F0 m 65 ls []) := by
    intro M H locs ls h hW hl
    unfold f_X11_needs_65 at h
    refine lv_aload_n hx hb dX11_needs_65 rfl (lv_at hl 0 rfl) ?_
    refine lv_iconst (v := 3) hx hb dX11_needs_66 (by decide) ?_
    obtain ⟨r32, M33, hc34, h⟩ := bd_some h
    refine cV_i (ci := 11) (q0 := 0) (rest := []) hF hW mw_X11_163 (c_X11_meet l K a d hc34) ⟨Nat.le_of_ble_eq_true rfl, Nat.le_of_ble_eq_true rfl⟩ rfl rfl (pC_0 K a d _) rfl hl.1 rfl (Nat.le_of_ble_eq_true rfl) dX11_needs_67 ⟨Nat.le_of_ble_eq_true rfl, Nat.le_of_ble_eq_true rfl⟩ (fun _ H locs hW => ?_)
    obtain ⟨rfl, rfl⟩ := Prod.mk.inj (Option.some.inj h)
    exact rt_i hF hr hk rfl (fun _ => 0) hW rfl dX11_needs_70
  unfold f_X11_needs at h
  refine lv_aload_n hx hb dX11_needs_0 rfl (lv_at hl 0 rfl) ?_
  refine g_X11_19 hF hW dX11_needs_1 ?_
  refine lv_iload_n hx hb dX11_needs_4 rfl (lv_at hl 1 rfl) ?_
  obtain ⟨r1, hc3, h⟩ := bq_some h
  refine cV_i (ci := 2) (q0 := 5) (rest := []) hF hW mw_X11_152 (c_X2_known l K a d hc3) ⟨Nat.le_of_ble_eq_true rfl, Nat.le_of_ble_eq_true rfl⟩ rfl rfl (pC_5 K a d _) rfl hl.1 rfl (Nat.le_of_ble_eq_true rfl) dX11_needs_5 ⟨Nat.le_of_ble_eq_true rfl, Nat.le_of_ble_eq_true rfl⟩ (fun _ H locs hW => ?_)
  refine lz_eq (tgt := 31) hx hb dX11_needs_8 (by decide) (fun q4 => ?_) (fun q4 => ?_)
  · have h := ifn q4 h
    refine lv_iconst (v := (-1)) hx hb dX11_needs_31 (by decide) ?_
    obtain ⟨rfl, rfl⟩ := Prod.mk.inj (Option.some.inj h)
    exact rt_i hF hr hk rfl (fun _ => 0) hW rfl dX11_needs_32
  · have h := ifp q4 h
    refine lv_aload_n hx hb dX11_needs_11 rfl (lv_at hl 0 rfl) ?_
    refine g_X11_19 hF hW dX11_needs_12 ?_
    refine lv_iload_n hx hb dX11_needs_15 rfl (lv_at hl 2 rfl) ?_
    obtain ⟨r5, hc7, h⟩ := bq_some h
    refine cV_i (ci := 2) (q0 := 5) (rest := []) hF hW mw_X11_152 (c_X2_known l K a d hc7) ⟨Nat.le_of_ble_eq_true rfl, Nat.le_of_ble_eq_true rfl⟩ rfl rfl (pC_5 K a d _) rfl hl.1 rfl (Nat.le_of_ble_eq_true rfl) dX11_needs_16 ⟨Nat.le_of_ble_eq_true rfl, Nat.le_of_ble_eq_true rfl⟩ (fun _ H locs hW => ?_)
    refine lz_eq (tgt := 31) hx hb dX11_needs_19 (by decide) (fun q8 => ?_) (fun q8 => ?_)
    · have h := ifn q8 h
      refine lv_iconst (v := (-1)) hx hb dX11_needs_31 (by decide) ?_
      obtain ⟨rfl, rfl⟩ := Prod.mk.inj (Option.some.inj h)
      exact rt_i hF hr hk rfl (fun _ => 0) hW rfl dX11_needs_32
    · have h := ifp q8 h
      refine lv_iload_n hx hb dX11_needs_22 rfl (lv_at hl 3 rfl) ?_
      refine lv_iconst (v := 0) hx hb dX11_needs_23 (by decide) ?_
      refine lv_iconst (v := 2) hx hb dX11_needs_24 (by decide) ?_
      obtain ⟨r9, hc11, h⟩ := bq_some h
      refine cS_i (rest := []) hF hW mw_X11_113 (c_X11_within l K hc11) ⟨Nat.le_of_ble_eq_true rfl, Nat.le_of_ble_eq_true rfl⟩ rfl hl.1 rfl (Nat.le_of_ble_eq_true rfl) dX11_needs_25 ⟨Nat.le_of_ble_eq_true rfl, Nat.le_of_ble_eq_true rfl⟩ (fun _ H locs hW => ?_)
      refine lz_ne (tgt := 33) hx hb dX11_needs_28 (by decide) (fun q12 => ?_) (fun q12 => ?_)
      · have h := ifp q12 h
        refine lv_aload_n hx hb dX11_needs_33 rfl (lv_at hl 0 rfl) ?_
        obtain ⟨r13, M14, hc15, h⟩ := bd_some h
        refine cV_i (ci := 11) (q0 := 0) (rest := []) hF hW mw_X11_244 (c_X11_tooMany l K a d hc15) ⟨Nat.le_of_ble_eq_true rfl, Nat.le_of_ble_eq_true rfl⟩ rfl rfl (pC_0 K a d _) rfl hl.1 rfl (Nat.le_of_ble_eq_true rfl) dX11_needs_34 ⟨Nat.le_of_ble_eq_true rfl, Nat.le_of_ble_eq_true rfl⟩ (fun _ H locs hW => ?_)
        refine lz_eq (tgt := 43) hx hb dX11_needs_37 (by decide) (fun q16 => ?_) (fun q16 => ?_)
        · have h := ifn q16 h
          refine lv_aload_n hx hb dX11_needs_43 rfl (lv_at hl 0 rfl) ?_
          refine g_X11_19 hF hW dX11_needs_44 ?_
          refine lv_iload_n hx hb dX11_needs_47 rfl (lv_at hl 1 rfl) ?_
          obtain ⟨r17, hc19, h⟩ := bq_some h
          refine cV_i (ci := 2) (q0 := 5) (rest := []) hF hW mw_X11_160 (c_X2_isAct l K a d hc19) ⟨Nat.le_of_ble_eq_true rfl, Nat.le_of_ble_eq_true rfl⟩ rfl rfl (pC_5 K a d _) rfl hl.1 rfl (Nat.le_of_ble_eq_true rfl) dX11_needs_48 ⟨Nat.le_of_ble_eq_true rfl, Nat.le_of_ble_eq_true rfl⟩ (fun _ H locs hW => ?_)
          refine lz_eq (tgt := 65) hx hb dX11_needs_51 (by decide) (fun q20 => ?_) (fun q20 => ?_)
          · have h := ifn q20 h
            exact J65 _ _ _ _ h hW (lv_sub hl [0] rfl)
          · have h := ifp q20 h
            refine lv_aload_n hx hb dX11_needs_54 rfl (lv_at hl 0 rfl) ?_
            refine g_X11_19 hF hW dX11_needs_55 ?_
            refine lv_iload_n hx hb dX11_needs_58 rfl (lv_at hl 2 rfl) ?_
            obtain ⟨r21, hc23, h⟩ := bq_some h
            refine cV_i (ci := 2) (q0 := 5) (rest := []) hF hW mw_X11_160 (c_X2_isAct l K a d hc23) ⟨Nat.le_of_ble_eq_true rfl, Nat.le_of_ble_eq_true rfl⟩ rfl rfl (pC_5 K a d _) rfl hl.1 rfl (Nat.le_of_ble_eq_true rfl) dX11_needs_59 ⟨Nat.le_of_ble_eq_true rfl, Nat.le_of_ble_eq_true rfl⟩ (fun _ H locs hW => ?_)
            refine lz_ne (tgt := 71) hx hb dX11_needs_62 (by decide) (fun q24 => ?_) (fun q24 => ?_)
            · have h := ifp q24 h
              refine lv_aload_n hx hb dX11_needs_71 rfl (lv_at hl 0 rfl) ?_
              refine g_X11_72 hF hW dX11_needs_72 ?_
              obtain ⟨M26, hc27, h⟩ := bm_some h
              refine cV_v (ci := 1) (q0 := 43) (rest := []) hF hW mw_X11_265 (c_X1_refresh l K a d hc27) ⟨Nat.le_of_ble_eq_true rfl, Nat.le_of_ble_eq_true rfl⟩ rfl rfl (pC_43 K a d _) rfl hl.1 rfl (Nat.le_of_ble_eq_true rfl) dX11_needs_75 ⟨Nat.le_of_ble_eq_true rfl, Nat.le_of_ble_eq_true rfl⟩ (fun _ H locs hW => ?_)
              refine lv_aload_n hx hb dX11_needs_78 rfl (lv_at hl 0 rfl) ?_
              refine g_X11_72 hF hW dX11_needs_79 ?_
              refine g_X11_268 hF hW dX11_needs_82 ?_
              refine lv_aload_n hx hb dX11_needs_85 rfl (lv_at hl 0 rfl) ?_
              refine g_X11_19 hF hW dX11_needs_86 ?_
              refine lv_iload_n hx hb dX11_needs_89 rfl (lv_at hl 1 rfl) ?_
              refine lv_iload_n hx hb dX11_needs_90 rfl (lv_at hl 2 rfl) ?_
              obtain ⟨r28, hc30, h⟩ := bq_some h
              refine cV_i (ci := 2) (q0 := 5) (rest := [.ref (a 44)]) hF hW mw_X11_271 (c_X2_pair l K a d hc30) ⟨Nat.le_of_ble_eq_true rfl, Nat.le_of_ble_eq_true rfl⟩ rfl rfl (pC_5 K a d _) rfl hl.1 rfl (Nat.le_of_ble_eq_true rfl) dX11_needs_91 ⟨Nat.le_of_ble_eq_true rfl, Nat.le_of_ble_eq_true rfl⟩ (fun _ H locs hW => ?_)
              refine lv_iconst (v := 3) hx hb dX11_needs_94 (by decide) ?_
              refine lv_imul hx hb dX11_needs_95 ?_
              refine lv_iload_n hx hb dX11_needs_96 rfl (lv_at hl 3 rfl) ?_
              refine lv_iadd hx hb dX11_needs_97 ?_
              obtain ⟨q31, h⟩ := ck_some h
              refine w_ild hF hW (pC_44 K a d _) q31 dX11_needs_98 ?_
              obtain ⟨rfl, rfl⟩ := Prod.mk.inj (Option.some.inj h)
              exact rt_i hF hr hk rfl (fun _ => 0) hW rfl dX11_needs_99
            · have h := ifn q24 h
              exact J65 _ _ _ _ h hW (lv_sub hl [0] rfl)
        · have h := ifp q16 h
          refine lv_bipush (v := (-6)) hx hb dX11_needs_40 (by decide) ?_
          obtain ⟨rfl, rfl⟩ := Prod.mk.inj (Option.some.inj h)
          exact rt_i hF hr hk rfl (fun _ => 0) hW rfl dX11_needs_42
      · have h := ifn q12 h
        refine lv_iconst (v := (-1)) hx hb dX11_needs_31 (by decide) ?_
        obtain ⟨rfl, rfl⟩ := Prod.mk.inj (Option.some.inj h)
        exact rt_i hF hr hk rfl (fun _ => 0) hW rfl dX11_needs_32
set_option maxRecDepth 100000 in
set_option maxHeartbeats 1000000 in
theorem c_X11_carried (l : Launch) (K : Kx) (a d : Nat → Nat) {M M0 : Mem} {x1 : Int32} {r0 : Int32} (h : f_X11_carried M x1 = some (r0, M0)) : CMi l yX11_carried cX11_carried 2 (some .int) ({ frames := 543, cells := 0, slots := 0, locals := 27064 } : Room) K [.ref (a 0), .int x1] (wC K a d M) (fun _ => wC K a d M0) r0 := by
  refine cs_i (by decide +kernel) (Nat.le_of_ble_eq_true rfl) ?_
  intro p e s m args below meth c A ls hF hr hk hnm hW hl
  have hx := hF.1
  have hb := hF.2.1
  have hl : lv_has ls 2 [(0, .ref (a 0)), (1, .int x1)] := hl
  obtain ⟨H, hH⟩ : ∃ z, z = s.heap := ⟨_, rfl⟩
  rw [← hH] at hW ⊢
  have J17 : ∀ (x1 : Int32) (M : Mem) (H : Heap) (locs : List Loc) (ls : Array Slot), f_X11_carried_17 x1 M = some (r0, M0) → Wd K A s (wC K a d M) H locs → lv_has ls 2 [(0, .ref (a 0)), (1, .int x1)] → W p l e ({ frames := 543, cells := 0, slots := 0, locals := 27064 } : Room) s m args below meth c H locs 0 0 (EndI K A (fun _ => wC K a d M0) r0 below args s ({ frames := 543, cells := 0, slots := 0, locals := 27064 } : Room)) (F0 m 17 ls []) := by
    intro x1 M H locs ls h hW hl
    unfold f_X11_carried_17 at h
    refine lv_aload_n hx hb dX11_carried_17 rfl (lv_at hl 0 rfl) ?_
    obtain ⟨r6, M7, hc8, h⟩ := bd_some h
    refine cV_i (ci := 11) (q0 := 0) (rest := []) hF hW mw_X11_244 (c_X11_tooMany l K a d hc8) ⟨Nat.le_of_ble_eq_true rfl, Nat.le_of_ble_eq_true rfl⟩ rfl rfl (pC_0 K a d _) rfl hl.1 rfl (Nat.le_of_ble_eq_true rfl) dX11_carried_18 ⟨Nat.le_of_ble_eq_true rfl, Nat.le_of_ble_eq_true rfl⟩ (fun _ H locs hW => ?_)
    refine lz_eq (tgt := 27) hx hb dX11_carried_21 (by decide) (fun q9 => ?_) (fun q9 => ?_)
    · have h := ifn q9 h
      refine lv_aload_n hx hb dX11_carried_27 rfl (lv_at hl 0 rfl) ?_
      refine g_X11_72 hF hW dX11_carried_28 ?_
      obtain ⟨M11, hc12, h⟩ := bm_some h
      refine cV_v (ci := 1) (q0 := 43) (rest := []) hF hW mw_X11_265 (c_X1_refresh l K a d hc12) ⟨Nat.le_of_ble_eq_true rfl, Nat.le_of_ble_eq_true rfl⟩ rfl rfl (pC_43 K a d _) rfl hl.1 rfl (Nat.le_of_ble_eq_true rfl) dX11_carried_31 ⟨Nat.le_of_ble_eq_true rfl, Nat.le_of_ble_eq_true rfl⟩ (fun _ H locs hW => ?_)
      refine lv_aload_n hx hb dX11_carried_34 rfl (lv_at hl 0 rfl) ?_
      refine g_X11_72 hF hW dX11_carried_35 ?_
      refine g_X11_274 hF hW dX11_carried_38 ?_
      refine lv_iload_n hx hb dX11_carried_41 rfl (lv_at hl 1 rfl) ?_
      refine lv_bipush (v := (-9)) hx hb dX11_carried_42 (by decide) ?_
      refine lv_icmp_ne (tgt := 51) hx hb dX11_carried_44 (by decide) (fun q13 => ?_) (fun q13 => ?_)
      · have h := ifn q13 h
        refine lv_iload_n hx hb dX11_carried_51 rfl (lv_at hl 1 rfl) ?_
        obtain ⟨q14, h⟩ := ck_some h
        refine w_ild hF hW (pC_45 K a d _) q14 dX11_carried_52 ?_
        obtain ⟨rfl, rfl⟩ := Prod.mk.inj (Option.some.inj h)
        exact rt_i hF hr hk rfl (fun _ => 0) hW rfl dX11_carried_53
      · have h := ifp q13 h
        refine lv_iconst (v := 4) hx hb dX11_carried_47 (by decide) ?_
        refine lv_goto (tgt := 52) hx hb dX11_carried_48 (by decide) ?_
        obtain ⟨q15, h⟩ := ck_some h
        refine w_ild hF hW (pC_45 K a d _) q15 dX11_carried_52 ?_
        obtain ⟨rfl, rfl⟩ := Prod.mk.inj (Option.some.inj h)
        exact rt_i hF hr hk rfl (fun _ => 0) hW rfl dX11_carried_53
    · have h := ifp q9 h
      refine lv_bipush (v := (-6)) hx hb dX11_carried_24 (by decide) ?_
      obtain ⟨rfl, rfl⟩ := Prod.mk.inj (Option.some.inj h)
      exact rt_i hF hr hk rfl (fun _ => 0) hW rfl dX11_carried_26
  unfold f_X11_carried at h
  refine lv_iload_n hx hb dX11_carried_0 rfl (lv_at hl 1 rfl) ?_
  refine lv_bipush (v := (-9)) hx hb dX11_carried_1 (by decide) ?_
  refine lv_icmp_eq (tgt := 17) hx hb dX11_carried_3 (by decide) (fun q1 => ?_) (fun q1 => ?_)
  · have h := ifp q1 h
    exact J17 x1 _ _ _ _ h hW (lv_sub hl [0, 1] rfl)
  · have h := ifn q1 h
    refine lv_iload_n hx hb dX11_carried_6 rfl (lv_at hl 1 rfl) ?_
    refine lv_iconst (v := 0) hx hb dX11_carried_7 (by decide) ?_
    refine lv_iconst (v := 3) hx hb dX11_carried_8 (by decide) ?_
    obtain ⟨r2, hc4, h⟩ := bq_some h
    refine cS_i (rest := []) hF hW mw_X11_113 (c_X11_within l K hc4) ⟨Nat.le_of_ble_eq_true rfl, Nat.le_of_ble_eq_true rfl⟩ rfl hl.1 rfl (Nat.le_of_ble_eq_true rfl) dX11_carried_9 ⟨Nat.le_of_ble_eq_true rfl, Nat.le_of_ble_eq_true rfl⟩ (fun _ H locs hW => ?_)
    refine lz_ne (tgt := 17) hx hb dX11_carried_12 (by decide) (fun q5 => ?_) (fun q5 => ?_)
    · have h := ifp q5 h
      exact J17 x1 _ _ _ _ h hW (lv_sub hl [0, 1] rfl)
    · have h := ifn q5 h
      refine lv_iconst (v := (-1)) hx hb dX11_carried_15 (by decide) ?_
      obtain ⟨rfl, rfl⟩ := Prod.mk.inj (Option.some.inj h)
      exact rt_i hF hr hk rfl (fun _ => 0) hW rfl dX11_carried_16
set_option maxRecDepth 100000 in
set_option maxHeartbeats 1000000 in
theorem c_X11_distance (l : Launch) (K : Kx) (a d : Nat → Nat) {M M0 : Mem} {x1 : Int32} {x2 : Int32} {x3 : Int32} {x4 : Bool} {r0 : Int32} (h : f_X11_distance M x1 x2 x3 x4 = some (r0, M0)) : CMi l yX11_distance cX11_distance 6 (some .int) ({ frames := 543, cells := 0, slots := 0, locals := 27064 } : Room) K [.ref (a 0), .int x1, .int x2, .int x3, .int (bI x4)] (wC K a d M) (fun _ => wC K a d M0) r0 := by
  refine cs_i (by decide +kernel) (Nat.le_of_ble_eq_true rfl) ?_
  intro p e s m args below meth c A ls hF hr hk hnm hW hl
  have hx := hF.1
  have hb := hF.2.1
  have hl : lv_has ls 6 [(0, .ref (a 0)), (1, .int x1), (2, .int x2), (3, .int x3), (4, .int (bI x4))] := hl
  obtain ⟨H, hH⟩ : ∃ z, z = s.heap := ⟨_, rfl⟩
  rw [← hH] at hW ⊢
  have J65 : ∀ (M : Mem) (H : Heap) (locs : List Loc) (ls : Array Slot), f_X11_distance_65 M = some (r0, M0) → Wd K A s (wC K a d M) H locs → lv_has ls 6 [(0, .ref (a 0))] → W p l e ({ frames := 543, cells := 0, slots := 0, locals := 27064 } : Room) s m args below meth c H locs 0 0 (EndI K A (fun _ => wC K a d M0) r0 below args s ({ frames := 543, cells := 0, slots := 0, locals := 27064 } : Room)) (F0 m 65 ls []) := by
    intro M H locs ls h hW hl
    unfold f_X11_distance_65 at h
    refine lv_aload_n hx hb dX11_distance_65 rfl (lv_at hl 0 rfl) ?_
    refine lv_iconst (v := 3) hx hb dX11_distance_66 (by decide) ?_
    obtain ⟨r42, M43, hc44, h⟩ := bd_some h
    refine cV_i (ci := 11) (q0 := 0) (rest := []) hF hW mw_X11_163 (c_X11_meet l K a d hc44) ⟨Nat.le_of_ble_eq_true rfl, Nat.le_of_ble_eq_true rfl⟩ rfl rfl (pC_0 K a d _) rfl hl.1 rfl (Nat.le_of_ble_eq_true rfl) dX11_distance_67 ⟨Nat.le_of_ble_eq_true rfl, Nat.le_of_ble_eq_true rfl⟩ (fun _ H locs hW => ?_)
    obtain ⟨rfl, rfl⟩ := Prod.mk.inj (Option.some.inj h)
    exact rt_i hF hr hk rfl (fun _ => 0) hW rfl dX11_distance_70
  unfold f_X11_distance at h
  refine lv_aload_n hx hb dX11_distance_0 rfl (lv_at hl 0 rfl) ?_
  refine g_X11_19 hF hW dX11_distance_1 ?_
  refine lv_iload_n hx hb dX11_distance_4 rfl (lv_at hl 1 rfl) ?_
  obtain ⟨r1, hc3, h⟩ := bq_some h
  refine cV_i (ci := 2) (q0 := 5) (rest := []) hF hW mw_X11_152 (c_X2_known l K a d hc3) ⟨Nat.le_of_ble_eq_true rfl, Nat.le_of_ble_eq_true rfl⟩ rfl rfl (pC_5 K a d _) rfl hl.1 rfl (Nat.le_of_ble_eq_true rfl) dX11_distance_5 ⟨Nat.le_of_ble_eq_true rfl, Nat.le_of_ble_eq_true rfl⟩ (fun _ H locs hW => ?_)
  refine lz_eq (tgt := 31) hx hb dX11_distance_8 (by decide) (fun q4 => ?_) (fun q4 => ?_)
  · have h := ifn q4 h
    refine lv_iconst (v := (-1)) hx hb dX11_distance_31 (by decide) ?_
    obtain ⟨rfl, rfl⟩ := Prod.mk.inj (Option.some.inj h)
    exact rt_i hF hr hk rfl (fun _ => 0) hW rfl dX11_distance_32
  · have h := ifp q4 h
    refine lv_aload_n hx hb dX11_distance_11 rfl (lv_at hl 0 rfl) ?_
    refine g_X11_19 hF hW dX11_distance_12 ?_
    refine lv_iload_n hx hb dX11_distance_15 rfl (lv_at hl 2 rfl) ?_
    obtain ⟨r5, hc7, h⟩ := bq_some h
    refine cV_i (ci := 2) (q0 := 5) (rest := []) hF hW mw_X11_152 (c_X2_known l K a d hc7) ⟨Nat.le_of_ble_eq_true rfl, Nat.le_of_ble_eq_true rfl⟩ rfl rfl (pC_5 K a d _) rfl hl.1 rfl (Nat.le_of_ble_eq_true rfl) dX11_distance_16 ⟨Nat.le_of_ble_eq_true rfl, Nat.le_of_ble_eq_true rfl⟩ (fun _ H locs hW => ?_)
    refine lz_eq (tgt := 31) hx hb dX11_distance_19 (by decide) (fun q8 => ?_) (fun q8 => ?_)
    · have h := ifn q8 h
      refine lv_iconst (v := (-1)) hx hb dX11_distance_31 (by decide) ?_
      obtain ⟨rfl, rfl⟩ := Prod.mk.inj (Option.some.inj h)
      exact rt_i hF hr hk rfl (fun _ => 0) hW rfl dX11_distance_32
    · have h := ifp q8 h
      refine lv_iload_n hx hb dX11_distance_22 rfl (lv_at hl 3 rfl) ?_
      refine lv_iconst (v := 0) hx hb dX11_distance_23 (by decide) ?_
      refine lv_iconst (v := 3) hx hb dX11_distance_24 (by decide) ?_
      obtain ⟨r9, hc11, h⟩ := bq_some h
      refine cS_i (rest := []) hF hW mw_X11_113 (c_X11_within l K hc11) ⟨Nat.le_of_ble_eq_true rfl, Nat.le_of_ble_eq_true rfl⟩ rfl hl.1 rfl (Nat.le_of_ble_eq_true rfl) dX11_distance_25 ⟨Nat.le_of_ble_eq_true rfl, Nat.le_of_ble_eq_true rfl⟩ (fun _ H locs hW => ?_)
      refine lz_ne (tgt := 33) hx hb dX11_distance_28 (by decide) (fun q12 => ?_) (fun q12 => ?_)
      · have h := ifp q12 h
        refine lv_aload_n hx hb dX11_distance_33 rfl (lv_at hl 0 rfl) ?_
        obtain ⟨r13, M14, hc15, h⟩ := bd_some h
        refine cV_i (ci := 11) (q0 := 0) (rest := []) hF hW mw_X11_244 (c_X11_tooMany l K a d hc15) ⟨Nat.le_of_ble_eq_true rfl, Nat.le_of_ble_eq_true rfl⟩ rfl rfl (pC_0 K a d _) rfl hl.1 rfl (Nat.le_of_ble_eq_true rfl) dX11_distance_34 ⟨Nat.le_of_ble_eq_true rfl, Nat.le_of_ble_eq_true rfl⟩ (fun _ H locs hW => ?_)
        refine lz_eq (tgt := 43) hx hb dX11_distance_37 (by decide) (fun q16 => ?_) (fun q16 => ?_)
        · have h := ifn q16 h
          refine lv_aload_n hx hb dX11_distance_43 rfl (lv_at hl 0 rfl) ?_
          refine g_X11_19 hF hW dX11_distance_44 ?_
          refine lv_iload_n hx hb dX11_distance_47 rfl (lv_at hl 1 rfl) ?_
          obtain ⟨r17, hc19, h⟩ := bq_some h
          refine cV_i (ci := 2) (q0 := 5) (rest := []) hF hW mw_X11_160 (c_X2_isAct l K a d hc19) ⟨Nat.le_of_ble_eq_true rfl, Nat.le_of_ble_eq_true rfl⟩ rfl rfl (pC_5 K a d _) rfl hl.1 rfl (Nat.le_of_ble_eq_true rfl) dX11_distance_48 ⟨Nat.le_of_ble_eq_true rfl, Nat.le_of_ble_eq_true rfl⟩ (fun _ H locs hW => ?_)
          refine lz_eq (tgt := 65) hx hb dX11_distance_51 (by decide) (fun q20 => ?_) (fun q20 => ?_)
          · have h := ifn q20 h
            exact J65 _ _ _ _ h hW (lv_sub hl [0] rfl)
          · have h := ifp q20 h
            refine lv_aload_n hx hb dX11_distance_54 rfl (lv_at hl 0 rfl) ?_
            refine g_X11_19 hF hW dX11_distance_55 ?_
            refine lv_iload_n hx hb dX11_distance_58 rfl (lv_at hl 2 rfl) ?_
            obtain ⟨r21, hc23, h⟩ := bq_some h
            refine cV_i (ci := 2) (q0 := 5) (rest := []) hF hW mw_X11_160 (c_X2_isAct l K a d hc23) ⟨Nat.le_of_ble_eq_true rfl, Nat.le_of_ble_eq_true rfl⟩ rfl rfl (pC_5 K a d _) rfl hl.1 rfl (Nat.le_of_ble_eq_true rfl) dX11_distance_59 ⟨Nat.le_of_ble_eq_true rfl, Nat.le_of_ble_eq_true rfl⟩ (fun _ H locs hW => ?_)
            refine lz_ne (tgt := 71) hx hb dX11_distance_62 (by decide) (fun q24 => ?_) (fun q24 => ?_)
            · have h := ifp q24 h
              refine lv_iload_n hx hb dX11_distance_71 rfl (lv_at hl 3 rfl) ?_
              refine lv_aload_n hx hb dX11_distance_72 rfl (lv_at hl 0 rfl) ?_
              refine g_X11_19 hF hW dX11_distance_73 ?_
              refine lv_iload_n hx hb dX11_distance_76 rfl (lv_at hl 1 rfl) ?_
              refine lv_iload_n hx hb dX11_distance_77 rfl (lv_at hl 2 rfl) ?_
              obtain ⟨r25, hc27, h⟩ := bq_some h
              refine cV_i (ci := 2) (q0 := 5) (rest := [.int x3]) hF hW mw_X11_277 (c_X2_common l K a d hc27) ⟨Nat.le_of_ble_eq_true rfl, Nat.le_of_ble_eq_true rfl⟩ rfl rfl (pC_5 K a d _) rfl hl.1 rfl (Nat.le_of_ble_eq_true rfl) dX11_distance_78 ⟨Nat.le_of_ble_eq_true rfl, Nat.le_of_ble_eq_true rfl⟩ (fun _ H locs hW => ?_)
              refine lv_icmp_lt (tgt := 86) hx hb dX11_distance_81 (by decide) (fun q28 => ?_) (fun q28 => ?_)
              · have h := ifp q28 h
                refine lv_aload_n hx hb dX11_distance_86 rfl (lv_at hl 0 rfl) ?_
                refine g_X11_72 hF hW dX11_distance_87 ?_
                obtain ⟨M30, hc31, h⟩ := bm_some h
                refine cV_v (ci := 1) (q0 := 43) (rest := []) hF hW mw_X11_265 (c_X1_refresh l K a d hc31) ⟨Nat.le_of_ble_eq_true rfl, Nat.le_of_ble_eq_true rfl⟩ rfl rfl (pC_43 K a d _) rfl hl.1 rfl (Nat.le_of_ble_eq_true rfl) dX11_distance_90 ⟨Nat.le_of_ble_eq_true rfl, Nat.le_of_ble_eq_true rfl⟩ (fun _ H locs hW => ?_)
                refine lv_aload_n hx hb dX11_distance_93 rfl (lv_at hl 0 rfl) ?_
                refine g_X11_19 hF hW dX11_distance_94 ?_
                refine lv_iload_n hx hb dX11_distance_97 rfl (lv_at hl 1 rfl) ?_
                refine lv_iload_n hx hb dX11_distance_98 rfl (lv_at hl 2 rfl) ?_
                obtain ⟨r32, hc34, h⟩ := bq_some h
                refine cV_i (ci := 2) (q0 := 5) (rest := []) hF hW mw_X11_271 (c_X2_pair l K a d hc34) ⟨Nat.le_of_ble_eq_true rfl, Nat.le_of_ble_eq_true rfl⟩ rfl rfl (pC_5 K a d _) rfl hl.1 rfl (Nat.le_of_ble_eq_true rfl) dX11_distance_99 ⟨Nat.le_of_ble_eq_true rfl, Nat.le_of_ble_eq_true rfl⟩ (fun _ H locs hW => ?_)
                refine lv_istore (lv' := [(5, .int r32), (0, .ref (a 0)), (1, .int x1), (2, .int x2), (3, .int x3), (4, .int (bI x4))]) hx hb dX11_distance_102 hl (by decide) rfl (fun ls hl => ?_)
                refine lv_aload_n hx hb dX11_distance_104 rfl (lv_at hl 1 rfl) ?_
                refine g_X11_72 hF hW dX11_distance_105 ?_
                refine lv_iload hx hb dX11_distance_108 (lv_at hl 0 rfl) ?_
                obtain ⟨r35, hc37, h⟩ := bq_some h
                refine cV_i (ci := 1) (q0 := 43) (rest := []) hF hW mw_X11_280 (c_X1_isAny l K a d hc37) ⟨Nat.le_of_ble_eq_true rfl, Nat.le_of_ble_eq_true rfl⟩ rfl rfl (pC_43 K a d _) rfl hl.1 rfl (Nat.le_of_ble_eq_true rfl) dX11_distance_110 ⟨Nat.le_of_ble_eq_true rfl, Nat.le_of_ble_eq_true rfl⟩ (fun _ H locs hW => ?_)
                refine lz_ne (tgt := 119) hx hb dX11_distance_113 (by decide) (fun q38 => ?_) (fun q38 => ?_)
                · have h := ifp q38 h
                  refine lv_aload_n hx hb dX11_distance_119 rfl (lv_at hl 1 rfl) ?_
                  refine lv_iload hx hb dX11_distance_120 (lv_at hl 5 rfl) ?_
                  refine lz_eq (tgt := 142) hx hb dX11_distance_122 (by decide) (fun q39 => ?_) (fun q39 => ?_)
                  · have h := ifn q39 h
                    refine lv_aload_n hx hb dX11_distance_142 rfl (lv_at hl 1 rfl) ?_
                    refine g_X11_72 hF hW dX11_distance_143 ?_
                    refine g_X11_286 hF hW dX11_distance_146 ?_
                    refine lv_iload hx hb dX11_distance_149 (lv_at hl 0 rfl) ?_
                    refine lv_iconst (v := 4) hx hb dX11_distance_151 (by decide) ?_
                    refine lv_imul hx hb dX11_distance_152 ?_
                    refine lv_iload_n hx hb dX11_distance_153 rfl (lv_at hl 4 rfl) ?_
                    refine lv_iadd hx hb dX11_distance_154 ?_
                    obtain ⟨q40, h⟩ := ck_some h
                    refine w_lld hF hW (pC_49 K a d _) q40 dX11_distance_155 ?_
                    refine s_X11_92 (x := (M30.2.1 49 ((r32 * 4) + x3).toNatClampNeg)) hF hW dX11_distance_156 (fun H locs hW => ?_)
                    refine lv_iconst (v := 1) hx hb dX11_distance_159 (by decide) ?_
                    obtain ⟨rfl, rfl⟩ := Prod.mk.inj (Option.some.inj h)
                    exact rt_i hF hr hk rfl (fun _ => 0) hW rfl dX11_distance_160
                  · have h := ifp q39 h
                    refine lv_aload_n hx hb dX11_distance_125 rfl (lv_at hl 1 rfl) ?_
                    refine g_X11_72 hF hW dX11_distance_126 ?_
                    refine g_X11_283 hF hW dX11_distance_129 ?_
                    refine lv_iload hx hb dX11_distance_132 (lv_at hl 0 rfl) ?_
                    refine lv_iconst (v := 4) hx hb dX11_distance_134 (by decide) ?_
                    refine lv_imul hx hb dX11_distance_135 ?_
                    refine lv_iload_n hx hb dX11_distance_136 rfl (lv_at hl 4 rfl) ?_
                    refine lv_iadd hx hb dX11_distance_137 ?_
                    obtain ⟨q41, h⟩ := ck_some h
                    refine w_lld hF hW (pC_50 K a d _) q41 dX11_distance_138 ?_
                    refine lv_goto (tgt := 156) hx hb dX11_distance_139 (by decide) ?_
                    refine s_X11_92 (x := (M30.2.1 50 ((r32 * 4) + x3).toNatClampNeg)) hF hW dX11_distance_156 (fun H locs hW => ?_)
                    refine lv_iconst (v := 1) hx hb dX11_distance_159 (by decide) ?_
                    obtain ⟨rfl, rfl⟩ := Prod.mk.inj (Option.some.inj h)
                    exact rt_i hF hr hk rfl (fun _ => 0) hW rfl dX11_distance_160
                · have h := ifn q38 h
                  refine lv_bipush (v := (-9)) hx hb dX11_distance_116 (by decide) ?_
                  obtain ⟨rfl, rfl⟩ := Prod.mk.inj (Option.some.inj h)
                  exact rt_i hF hr hk rfl (fun _ => 0) hW rfl dX11_distance_118
              · have h := ifn q28 h
                refine lv_iconst (v := (-1)) hx hb dX11_distance_84 (by decide) ?_
                obtain ⟨rfl, rfl⟩ := Prod.mk.inj (Option.some.inj h)
                exact rt_i hF hr hk rfl (fun _ => 0) hW rfl dX11_distance_85
            · have h := ifn q24 h
              exact J65 _ _ _ _ h hW (lv_sub hl [0] rfl)
        · have h := ifp q16 h
          refine lv_bipush (v := (-6)) hx hb dX11_distance_40 (by decide) ?_
          obtain ⟨rfl, rfl⟩ := Prod.mk.inj (Option.some.inj h)
          exact rt_i hF hr hk rfl (fun _ => 0) hW rfl dX11_distance_42
      · have h := ifn q12 h
        refine lv_iconst (v := (-1)) hx hb dX11_distance_31 (by decide) ?_
        obtain ⟨rfl, rfl⟩ := Prod.mk.inj (Option.some.inj h)
        exact rt_i hF hr hk rfl (fun _ => 0) hW rfl dX11_distance_32
set_option maxRecDepth 100000 in
set_option maxHeartbeats 1000000 in
theorem c_X11_free (l : Launch) (K : Kx) (a d : Nat → Nat) {M M0 : Mem} {x1 : Int32} {r0 : Int32} (h : f_X11_free M x1 = some (r0, M0)) : CMi l yX11_free cX11_free 2 (some .int) ({ frames := 543, cells := 0, slots := 0, locals := 27064 } : Room) K [.ref (a 0), .int x1] (wC K a d M) (fun _ => wC K a d M0) r0 := by
  refine cs_i (by decide +kernel) (Nat.le_of_ble_eq_true rfl) ?_
  intro p e s m args below meth c A ls hF hr hk hnm hW hl
  have hx := hF.1
  have hb := hF.2.1
  have hl : lv_has ls 2 [(0, .ref (a 0)), (1, .int x1)] := hl
  obtain ⟨H, hH⟩ : ∃ z, z = s.heap := ⟨_, rfl⟩
  rw [← hH] at hW ⊢
  unfold f_X11_free at h
  refine lv_aload_n hx hb dX11_free_0 rfl (lv_at hl 0 rfl) ?_
  refine g_X11_19 hF hW dX11_free_1 ?_
  refine lv_iload_n hx hb dX11_free_4 rfl (lv_at hl 1 rfl) ?_
  obtain ⟨r1, hc3, h⟩ := bq_some h
  refine cV_i (ci := 2) (q0 := 5) (rest := []) hF hW mw_X11_152 (c_X2_known l K a d hc3) ⟨Nat.le_of_ble_eq_true rfl, Nat.le_of_ble_eq_true rfl⟩ rfl rfl (pC_5 K a d _) rfl hl.1 rfl (Nat.le_of_ble_eq_true rfl) dX11_free_5 ⟨Nat.le_of_ble_eq_true rfl, Nat.le_of_ble_eq_true rfl⟩ (fun _ H locs hW => ?_)
  refine lz_ne (tgt := 13) hx hb dX11_free_8 (by decide) (fun q4 => ?_) (fun q4 => ?_)
  · have h := ifp q4 h
    refine lv_aload_n hx hb dX11_free_13 rfl (lv_at hl 0 rfl) ?_
    obtain ⟨r5, M6, hc7, h⟩ := bd_some h
    refine cV_i (ci := 11) (q0 := 0) (rest := []) hF hW mw_X11_244 (c_X11_tooMany l K a d hc7) ⟨Nat.le_of_ble_eq_true rfl, Nat.le_of_ble_eq_true rfl⟩ rfl rfl (pC_0 K a d _) rfl hl.1 rfl (Nat.le_of_ble_eq_true rfl) dX11_free_14 ⟨Nat.le_of_ble_eq_true rfl, Nat.le_of_ble_eq_true rfl⟩ (fun _ H locs hW => ?_)
    refine lz_eq (tgt := 23) hx hb dX11_free_17 (by decide) (fun q8 => ?_) (fun q8 => ?_)
    · have h := ifn q8 h
      refine lv_aload_n hx hb dX11_free_23 rfl (lv_at hl 0 rfl) ?_
      refine g_X11_19 hF hW dX11_free_24 ?_
      refine lv_iload_n hx hb dX11_free_27 rfl (lv_at hl 1 rfl) ?_
      obtain ⟨r9, hc11, h⟩ := bq_some h
      refine cV_i (ci := 2) (q0 := 5) (rest := []) hF hW mw_X11_289 (c_X2_isLoop l K a d hc11) ⟨Nat.le_of_ble_eq_true rfl, Nat.le_of_ble_eq_true rfl⟩ rfl rfl (pC_5 K a d _) rfl hl.1 rfl (Nat.le_of_ble_eq_true rfl) dX11_free_28 ⟨Nat.le_of_ble_eq_true rfl, Nat.le_of_ble_eq_true rfl⟩ (fun _ H locs hW => ?_)
      refine lz_ne (tgt := 40) hx hb dX11_free_31 (by decide) (fun q12 => ?_) (fun q12 => ?_)
      · have h := ifp q12 h
        refine lv_aload_n hx hb dX11_free_40 rfl (lv_at hl 0 rfl) ?_
        refine g_X11_72 hF hW dX11_free_41 ?_
        obtain ⟨M14, hc15, h⟩ := bm_some h
        refine cV_v (ci := 1) (q0 := 43) (rest := []) hF hW mw_X11_265 (c_X1_refresh l K a d hc15) ⟨Nat.le_of_ble_eq_true rfl, Nat.le_of_ble_eq_true rfl⟩ rfl rfl (pC_43 K a d _) rfl hl.1 rfl (Nat.le_of_ble_eq_true rfl) dX11_free_44 ⟨Nat.le_of_ble_eq_true rfl, Nat.le_of_ble_eq_true rfl⟩ (fun _ H locs hW => ?_)
        refine lv_aload_n hx hb dX11_free_47 rfl (lv_at hl 0 rfl) ?_
        refine g_X11_72 hF hW dX11_free_48 ?_
        refine lv_iload_n hx hb dX11_free_51 rfl (lv_at hl 1 rfl) ?_
        obtain ⟨r16, hc18, h⟩ := bq_some h
        refine cV_i (ci := 1) (q0 := 43) (rest := []) hF hW mw_X11_292 (c_X1_isCarriedBy l K a d hc18) ⟨Nat.le_of_ble_eq_true rfl, Nat.le_of_ble_eq_true rfl⟩ rfl rfl (pC_43 K a d _) rfl hl.1 rfl (Nat.le_of_ble_eq_true rfl) dX11_free_52 ⟨Nat.le_of_ble_eq_true rfl, Nat.le_of_ble_eq_true rfl⟩ (fun _ H locs hW => ?_)
        refine lz_eq (tgt := 62) hx hb dX11_free_55 (by decide) (fun q19 => ?_) (fun q19 => ?_)
        · have h := ifn q19 h
          refine lv_iconst (v := 1) hx hb dX11_free_62 (by decide) ?_
          obtain ⟨rfl, rfl⟩ := Prod.mk.inj (Option.some.inj h)
          exact rt_i hF hr hk rfl (fun _ => 0) hW rfl dX11_free_63
        · have h := ifp q19 h
          refine lv_iconst (v := 0) hx hb dX11_free_58 (by decide) ?_
          refine lv_goto (tgt := 63) hx hb dX11_free_59 (by decide) ?_
          obtain ⟨rfl, rfl⟩ := Prod.mk.inj (Option.some.inj h)
          exact rt_i hF hr hk rfl (fun _ => 0) hW rfl dX11_free_63
      · have h := ifn q12 h
        refine lv_aload_n hx hb dX11_free_34 rfl (lv_at hl 0 rfl) ?_
        refine lv_iconst (v := 3) hx hb dX11_free_35 (by decide) ?_
        obtain ⟨r20, M21, hc22, h⟩ := bd_some h
        refine cV_i (ci := 11) (q0 := 0) (rest := []) hF hW mw_X11_163 (c_X11_meet l K a d hc22) ⟨Nat.le_of_ble_eq_true rfl, Nat.le_of_ble_eq_true rfl⟩ rfl rfl (pC_0 K a d _) rfl hl.1 rfl (Nat.le_of_ble_eq_true rfl) dX11_free_36 ⟨Nat.le_of_ble_eq_true rfl, Nat.le_of_ble_eq_true rfl⟩ (fun _ H locs hW => ?_)
        obtain ⟨rfl, rfl⟩ := Prod.mk.inj (Option.some.inj h)
        exact rt_i hF hr hk rfl (fun _ => 0) hW rfl dX11_free_39
    · have h := ifp q8 h
      refine lv_bipush (v := (-6)) hx hb dX11_free_20 (by decide) ?_
      obtain ⟨rfl, rfl⟩ := Prod.mk.inj (Option.some.inj h)
      exact rt_i hF hr hk rfl (fun _ => 0) hW rfl dX11_free_22
  · have h := ifn q4 h
    refine lv_iconst (v := (-1)) hx hb dX11_free_11 (by decide) ?_
    obtain ⟨rfl, rfl⟩ := Prod.mk.inj (Option.some.inj h)
    exact rt_i hF hr hk rfl (fun _ => 0) hW rfl dX11_free_12
set_option maxRecDepth 100000 in
set_option maxHeartbeats 1000000 in
theorem c_X11_allowed (l : Launch) (K : Kx) (a d : Nat → Nat) {M M0 : Mem}  {r0 : Int32} (h : f_X11_allowed M = some (r0, M0)) : CMi l yX11_allowed cX11_allowed 1 (some .int) ({ frames := 543, cells := 0, slots := 0, locals := 27064 } : Room) K [.ref (a 0)] (wC K a d M) (fun _ => wC K a d M0) r0 := by
  refine cs_i (by decide +kernel) (Nat.le_of_ble_eq_true rfl) ?_
  intro p e s m args below meth c A ls hF hr hk hnm hW hl
  have hx := hF.1
  have hb := hF.2.1
  have hl : lv_has ls 1 [(0, .ref (a 0))] := hl
  obtain ⟨H, hH⟩ : ∃ z, z = s.heap := ⟨_, rfl⟩
  rw [← hH] at hW ⊢
  unfold f_X11_allowed at h
  refine lv_aload_n hx hb dX11_allowed_0 rfl (lv_at hl 0 rfl) ?_
  obtain ⟨r1, M2, hc3, h⟩ := bd_some h
  refine cV_i (ci := 11) (q0 := 0) (rest := []) hF hW mw_X11_244 (c_X11_tooMany l K a d hc3) ⟨Nat.le_of_ble_eq_true rfl, Nat.le_of_ble_eq_true rfl⟩ rfl rfl (pC_0 K a d _) rfl hl.1 rfl (Nat.le_of_ble_eq_true rfl) dX11_allowed_1 ⟨Nat.le_of_ble_eq_true rfl, Nat.le_of_ble_eq_true rfl⟩ (fun _ H locs hW => ?_)
  refine lz_eq (tgt := 10) hx hb dX11_allowed_4 (by decide) (fun q4 => ?_) (fun q4 => ?_)
  · have h := ifn q4 h
    refine lv_aload_n hx hb dX11_allowed_10 rfl (lv_at hl 0 rfl) ?_
    refine g_X11_81 hF hW dX11_allowed_11 ?_
    obtain ⟨r5, M6, hc7, h⟩ := bd_some h
    refine cV_i (ci := 10) (q0 := 55) (rest := []) hF hW mw_X11_366 (c_X10_isAllowed l K a d hc7) ⟨Nat.le_of_ble_eq_true rfl, Nat.le_of_ble_eq_true rfl⟩ rfl rfl (pC_55 K a d _) rfl hl.1 rfl (Nat.le_of_ble_eq_true rfl) dX11_allowed_14 ⟨Nat.le_of_ble_eq_true rfl, Nat.le_of_ble_eq_true rfl⟩ (fun _ H locs hW => ?_)
    refine lz_eq (tgt := 24) hx hb dX11_allowed_17 (by decide) (fun q8 => ?_) (fun q8 => ?_)
    · have h := ifn q8 h
      refine lv_iconst (v := 0) hx hb dX11_allowed_24 (by decide) ?_
      obtain ⟨rfl, rfl⟩ := Prod.mk.inj (Option.some.inj h)
      exact rt_i hF hr hk rfl (fun _ => 0) hW rfl dX11_allowed_25
    · have h := ifp q8 h
      refine lv_iconst (v := 1) hx hb dX11_allowed_20 (by decide) ?_
      refine lv_goto (tgt := 25) hx hb dX11_allowed_21 (by decide) ?_
      obtain ⟨rfl, rfl⟩ := Prod.mk.inj (Option.some.inj h)
      exact rt_i hF hr hk rfl (fun _ => 0) hW rfl dX11_allowed_25
  · have h := ifp q4 h
    refine lv_bipush (v := (-6)) hx hb dX11_allowed_7 (by decide) ?_
    obtain ⟨rfl, rfl⟩ := Prod.mk.inj (Option.some.inj h)
    exact rt_i hF hr hk rfl (fun _ => 0) hW rfl dX11_allowed_9
set_option maxRecDepth 100000 in
set_option maxHeartbeats 1000000 in
theorem c_X11_why (l : Launch) (K : Kx) (a d : Nat → Nat) {M M0 : Mem} {x1 : Int32} {r0 : Int32} (h : f_X11_why M x1 = some (r0, M0)) : CMi l yX11_why cX11_why 2 (some .int) ({ frames := 543, cells := 0, slots := 0, locals := 27064 } : Room) K [.ref (a 0), .int x1] (wC K a d M) (fun _ => wC K a d M0) r0 := by
  refine cs_i (by decide +kernel) (Nat.le_of_ble_eq_true rfl) ?_
  intro p e s m args below meth c A ls hF hr hk hnm hW hl
  have hx := hF.1
  have hb := hF.2.1
  have hl : lv_has ls 2 [(0, .ref (a 0)), (1, .int x1)] := hl
  obtain ⟨H, hH⟩ : ∃ z, z = s.heap := ⟨_, rfl⟩
  rw [← hH] at hW ⊢
  unfold f_X11_why at h
  refine lv_iload_n hx hb dX11_why_0 rfl (lv_at hl 1 rfl) ?_
  refine lv_iconst (v := 0) hx hb dX11_why_1 (by decide) ?_
  refine lv_iconst (v := 2) hx hb dX11_why_2 (by decide) ?_
  obtain ⟨r1, hc3, h⟩ := bq_some h
  refine cS_i (rest := []) hF hW mw_X11_113 (c_X11_within l K hc3) ⟨Nat.le_of_ble_eq_true rfl, Nat.le_of_ble_eq_true rfl⟩ rfl hl.1 rfl (Nat.le_of_ble_eq_true rfl) dX11_why_3 ⟨Nat.le_of_ble_eq_true rfl, Nat.le_of_ble_eq_true rfl⟩ (fun _ H locs hW => ?_)
  refine lz_ne (tgt := 11) hx hb dX11_why_6 (by decide) (fun q4 => ?_) (fun q4 => ?_)
  · have h := ifp q4 h
    refine lv_aload_n hx hb dX11_why_11 rfl (lv_at hl 0 rfl) ?_
    obtain ⟨r5, M6, hc7, h⟩ := bd_some h
    refine cV_i (ci := 11) (q0 := 0) (rest := []) hF hW mw_X11_244 (c_X11_tooMany l K a d hc7) ⟨Nat.le_of_ble_eq_true rfl, Nat.le_of_ble_eq_true rfl⟩ rfl rfl (pC_0 K a d _) rfl hl.1 rfl (Nat.le_of_ble_eq_true rfl) dX11_why_12 ⟨Nat.le_of_ble_eq_true rfl, Nat.le_of_ble_eq_true rfl⟩ (fun _ H locs hW => ?_)
    refine lz_eq (tgt := 21) hx hb dX11_why_15 (by decide) (fun q8 => ?_) (fun q8 => ?_)
    · have h := ifn q8 h
      refine lv_aload_n hx hb dX11_why_21 rfl (lv_at hl 0 rfl) ?_
      refine g_X11_81 hF hW dX11_why_22 ?_
      obtain ⟨r9, M10, hc11, h⟩ := bd_some h
      refine cV_i (ci := 10) (q0 := 55) (rest := []) hF hW mw_X11_366 (c_X10_isAllowed l K a d hc11) ⟨Nat.le_of_ble_eq_true rfl, Nat.le_of_ble_eq_true rfl⟩ rfl rfl (pC_55 K a d _) rfl hl.1 rfl (Nat.le_of_ble_eq_true rfl) dX11_why_25 ⟨Nat.le_of_ble_eq_true rfl, Nat.le_of_ble_eq_true rfl⟩ (fun _ H locs hW => ?_)
      refine lz_eq (tgt := 34) hx hb dX11_why_28 (by decide) (fun q12 => ?_) (fun q12 => ?_)
      · have h := ifn q12 h
        refine lv_iload_n hx hb dX11_why_34 rfl (lv_at hl 1 rfl) ?_
        refine lv_iconst (v := 2) hx hb dX11_why_35 (by decide) ?_
        refine lv_icmp_ne (tgt := 47) hx hb dX11_why_36 (by decide) (fun q13 => ?_) (fun q13 => ?_)
        · have h := ifn q13 h
          refine lv_iload_n hx hb dX11_why_47 rfl (lv_at hl 1 rfl) ?_
          refine lv_if_ne (tgt := 61) hx hb dX11_why_48 (by decide) (fun q14 => ?_) (fun q14 => ?_)
          · have h := ifn q14 h
            refine lv_aload_n hx hb dX11_why_61 rfl (lv_at hl 0 rfl) ?_
            refine g_X11_81 hF hW dX11_why_62 ?_
            refine g_X11_375 hF hW dX11_why_65 ?_
            obtain ⟨rfl, rfl⟩ := Prod.mk.inj (Option.some.inj h)
            exact rt_i hF hr hk rfl (fun _ => 0) hW rfl dX11_why_68
          · have h := ifp q14 h
            refine lv_aload_n hx hb dX11_why_51 rfl (lv_at hl 0 rfl) ?_
            refine g_X11_81 hF hW dX11_why_52 ?_
            refine g_X11_372 hF hW dX11_why_55 ?_
            refine lv_goto (tgt := 68) hx hb dX11_why_58 (by decide) ?_
            obtain ⟨rfl, rfl⟩ := Prod.mk.inj (Option.some.inj h)
            exact rt_i hF hr hk rfl (fun _ => 0) hW rfl dX11_why_68
        · have h := ifp q13 h
          refine lv_aload_n hx hb dX11_why_39 rfl (lv_at hl 0 rfl) ?_
          refine g_X11_81 hF hW dX11_why_40 ?_
          refine g_X11_369 hF hW dX11_why_43 ?_
          obtain ⟨rfl, rfl⟩ := Prod.mk.inj (Option.some.inj h)
          exact rt_i hF hr hk rfl (fun _ => 0) hW rfl dX11_why_46
      · have h := ifp q12 h
        refine lv_bipush (v := (-9)) hx hb dX11_why_31 (by decide) ?_
        obtain ⟨rfl, rfl⟩ := Prod.mk.inj (Option.some.inj h)
        exact rt_i hF hr hk rfl (fun _ => 0) hW rfl dX11_why_33
    · have h := ifp q8 h
      refine lv_bipush (v := (-6)) hx hb dX11_why_18 (by decide) ?_
      obtain ⟨rfl, rfl⟩ := Prod.mk.inj (Option.some.inj h)
      exact rt_i hF hr hk rfl (fun _ => 0) hW rfl dX11_why_20
  · have h := ifn q4 h
    refine lv_iconst (v := (-1)) hx hb dX11_why_9 (by decide) ?_
    obtain ⟨rfl, rfl⟩ := Prod.mk.inj (Option.some.inj h)
    exact rt_i hF hr hk rfl (fun _ => 0) hW rfl dX11_why_10
set_option maxRecDepth 100000 in
set_option maxHeartbeats 1000000 in
theorem c_X11_fetched (l : Launch) (K : Kx) (a d : Nat → Nat) {M M0 : Mem} {x1 : Int32} {x2 : Int32} {r0 : Int32} (h : f_X11_fetched M x1 x2 = some (r0, M0)) : CMi l yX11_fetched cX11_fetched 3 (some .int) ({ frames := 543, cells := 0, slots := 0, locals := 27064 } : Room) K [.ref (a 0), .int x1, .int x2] (wC K a d M) (fun _ => wC K a d M0) r0 := by
  refine cs_i (by decide +kernel) (Nat.le_of_ble_eq_true rfl) ?_
  intro p e s m args below meth c A ls hF hr hk hnm hW hl
  have hx := hF.1
  have hb := hF.2.1
  have hl : lv_has ls 3 [(0, .ref (a 0)), (1, .int x1), (2, .int x2)] := hl
  obtain ⟨H, hH⟩ : ∃ z, z = s.heap := ⟨_, rfl⟩
  rw [← hH] at hW ⊢
  unfold f_X11_fetched at h
  refine lv_iload_n hx hb dX11_fetched_0 rfl (lv_at hl 1 rfl) ?_
  refine lv_iload_n hx hb dX11_fetched_1 rfl (lv_at hl 2 rfl) ?_
  obtain ⟨r1, hc3, h⟩ := bq_some h
  refine cS_i (rest := []) hF hW mw_X11_385 (c_X11_roomFits l K hc3) ⟨Nat.le_of_ble_eq_true rfl, Nat.le_of_ble_eq_true rfl⟩ rfl hl.1 rfl (Nat.le_of_ble_eq_true rfl) dX11_fetched_2 ⟨Nat.le_of_ble_eq_true rfl, Nat.le_of_ble_eq_true rfl⟩ (fun _ H locs hW => ?_)
  refine lz_ne (tgt := 10) hx hb dX11_fetched_5 (by decide) (fun q4 => ?_) (fun q4 => ?_)
  · have h := ifp q4 h
    refine lv_aload_n hx hb dX11_fetched_10 rfl (lv_at hl 0 rfl) ?_
    obtain ⟨r5, M6, hc7, h⟩ := bd_some h
    refine cV_i (ci := 11) (q0 := 0) (rest := []) hF hW mw_X11_244 (c_X11_tooMany l K a d hc7) ⟨Nat.le_of_ble_eq_true rfl, Nat.le_of_ble_eq_true rfl⟩ rfl rfl (pC_0 K a d _) rfl hl.1 rfl (Nat.le_of_ble_eq_true rfl) dX11_fetched_11 ⟨Nat.le_of_ble_eq_true rfl, Nat.le_of_ble_eq_true rfl⟩ (fun _ H locs hW => ?_)
    refine lz_eq (tgt := 20) hx hb dX11_fetched_14 (by decide) (fun q8 => ?_) (fun q8 => ?_)
    · have h := ifn q8 h
      refine lv_aload_n hx hb dX11_fetched_20 rfl (lv_at hl 0 rfl) ?_
      refine lv_iload_n hx hb dX11_fetched_21 rfl (lv_at hl 1 rfl) ?_
      refine lv_iload_n hx hb dX11_fetched_22 rfl (lv_at hl 2 rfl) ?_
      obtain ⟨r9, M10, hc11, h⟩ := bd_some h
      refine cV_i (ci := 11) (q0 := 0) (rest := []) hF hW mw_X11_388 (c_X11_countFetched l K a d hc11) ⟨Nat.le_of_ble_eq_true rfl, Nat.le_of_ble_eq_true rfl⟩ rfl rfl (pC_0 K a d _) rfl hl.1 rfl (Nat.le_of_ble_eq_true rfl) dX11_fetched_23 ⟨Nat.le_of_ble_eq_true rfl, Nat.le_of_ble_eq_true rfl⟩ (fun _ H locs hW => ?_)
      obtain ⟨rfl, rfl⟩ := Prod.mk.inj (Option.some.inj h)
      exact rt_i hF hr hk rfl (fun _ => 0) hW rfl dX11_fetched_26
    · have h := ifp q8 h
      refine lv_bipush (v := (-6)) hx hb dX11_fetched_17 (by decide) ?_
      obtain ⟨rfl, rfl⟩ := Prod.mk.inj (Option.some.inj h)
      exact rt_i hF hr hk rfl (fun _ => 0) hW rfl dX11_fetched_19
  · have h := ifn q4 h
    refine lv_iconst (v := (-1)) hx hb dX11_fetched_8 (by decide) ?_
    obtain ⟨rfl, rfl⟩ := Prod.mk.inj (Option.some.inj h)
    exact rt_i hF hr hk rfl (fun _ => 0) hW rfl dX11_fetched_9
set_option maxRecDepth 100000 in
set_option maxHeartbeats 1000000 in
theorem c_X11_lines (l : Launch) (K : Kx) (a d : Nat → Nat) {M M0 : Mem}  {r0 : Int32} (h : f_X11_lines M = some (r0, M0)) : CMi l yX11_lines cX11_lines 1 (some .int) ({ frames := 543, cells := 0, slots := 0, locals := 27064 } : Room) K [.ref (a 0)] (wC K a d M) (fun _ => wC K a d M0) r0 := by
  refine cs_i (by decide +kernel) (Nat.le_of_ble_eq_true rfl) ?_
  intro p e s m args below meth c A ls hF hr hk hnm hW hl
  have hx := hF.1
  have hb := hF.2.1
  have hl : lv_has ls 1 [(0, .ref (a 0))] := hl
  obtain ⟨H, hH⟩ : ∃ z, z = s.heap := ⟨_, rfl⟩
  rw [← hH] at hW ⊢
  unfold f_X11_lines at h
  refine lv_aload_n hx hb dX11_lines_0 rfl (lv_at hl 0 rfl) ?_
  obtain ⟨r1, M2, hc3, h⟩ := bd_some h
  refine cV_i (ci := 11) (q0 := 0) (rest := []) hF hW mw_X11_244 (c_X11_tooMany l K a d hc3) ⟨Nat.le_of_ble_eq_true rfl, Nat.le_of_ble_eq_true rfl⟩ rfl rfl (pC_0 K a d _) rfl hl.1 rfl (Nat.le_of_ble_eq_true rfl) dX11_lines_1 ⟨Nat.le_of_ble_eq_true rfl, Nat.le_of_ble_eq_true rfl⟩ (fun _ H locs hW => ?_)
  refine lz_eq (tgt := 10) hx hb dX11_lines_4 (by decide) (fun q4 => ?_) (fun q4 => ?_)
  · have h := ifn q4 h
    refine lv_aload_n hx hb dX11_lines_10 rfl (lv_at hl 0 rfl) ?_
    refine g_X11_81 hF hW dX11_lines_11 ?_
    obtain ⟨M6, hc7, h⟩ := bm_some h
    refine cV_v (ci := 10) (q0 := 55) (rest := []) hF hW mw_X11_400 (c_X10_partLines l K a d hc7) ⟨Nat.le_of_ble_eq_true rfl, Nat.le_of_ble_eq_true rfl⟩ rfl rfl (pC_55 K a d _) rfl hl.1 rfl (Nat.le_of_ble_eq_true rfl) dX11_lines_14 ⟨Nat.le_of_ble_eq_true rfl, Nat.le_of_ble_eq_true rfl⟩ (fun _ H locs hW => ?_)
    refine lv_aload_n hx hb dX11_lines_17 rfl (lv_at hl 0 rfl) ?_
    refine g_X11_81 hF hW dX11_lines_18 ?_
    refine g_X11_403 hF hW dX11_lines_21 ?_
    obtain ⟨rfl, rfl⟩ := Prod.mk.inj (Option.some.inj h)
    exact rt_i hF hr hk rfl (fun _ => 0) hW rfl dX11_lines_24
  · have h := ifp q4 h
    refine lv_bipush (v := (-6)) hx hb dX11_lines_7 (by decide) ?_
    obtain ⟨rfl, rfl⟩ := Prod.mk.inj (Option.some.inj h)
    exact rt_i hF hr hk rfl (fun _ => 0) hW rfl dX11_lines_9
set_option maxRecDepth 100000 in
set_option maxHeartbeats 1000000 in
theorem c_X11_written (l : Launch) (K : Kx) (a d : Nat → Nat) {M M0 : Mem} {x1 : Int32} {x2 : Int32} {r0 : Int32} (h : f_X11_written M x1 x2 = some (r0, M0)) : CMi l yX11_written cX11_written 3 (some .int) ({ frames := 543, cells := 0, slots := 0, locals := 27064 } : Room) K [.ref (a 0), .int x1, .int x2] (wC K a d M) (fun _ => wC K a d M0) r0 := by
  refine cs_i (by decide +kernel) (Nat.le_of_ble_eq_true rfl) ?_
  intro p e s m args below meth c A ls hF hr hk hnm hW hl
  have hx := hF.1
  have hb := hF.2.1
  have hl : lv_has ls 3 [(0, .ref (a 0)), (1, .int x1), (2, .int x2)] := hl
  obtain ⟨H, hH⟩ : ∃ z, z = s.heap := ⟨_, rfl⟩
  rw [← hH] at hW ⊢
  unfold f_X11_written at h
  refine lv_iload_n hx hb dX11_written_0 rfl (lv_at hl 2 rfl) ?_
  refine lv_iconst (v := 0) hx hb dX11_written_1 (by decide) ?_
  refine lv_bipush (v := 9) hx hb dX11_written_2 (by decide) ?_
  obtain ⟨r1, hc3, h⟩ := bq_some h
  refine cS_i (rest := []) hF hW mw_X11_113 (c_X11_within l K hc3) ⟨Nat.le_of_ble_eq_true rfl, Nat.le_of_ble_eq_true rfl⟩ rfl hl.1 rfl (Nat.le_of_ble_eq_true rfl) dX11_written_4 ⟨Nat.le_of_ble_eq_true rfl, Nat.le_of_ble_eq_true rfl⟩ (fun _ H locs hW => ?_)
  refine lz_ne (tgt := 12) hx hb dX11_written_7 (by decide) (fun q4 => ?_) (fun q4 => ?_)
  · have h := ifp q4 h
    refine lv_aload_n hx hb dX11_written_12 rfl (lv_at hl 0 rfl) ?_
    obtain ⟨r5, M6, hc7, h⟩ := bd_some h
    refine cV_i (ci := 11) (q0 := 0) (rest := []) hF hW mw_X11_244 (c_X11_tooMany l K a d hc7) ⟨Nat.le_of_ble_eq_true rfl, Nat.le_of_ble_eq_true rfl⟩ rfl rfl (pC_0 K a d _) rfl hl.1 rfl (Nat.le_of_ble_eq_true rfl) dX11_written_13 ⟨Nat.le_of_ble_eq_true rfl, Nat.le_of_ble_eq_true rfl⟩ (fun _ H locs hW => ?_)
    refine lz_eq (tgt := 22) hx hb dX11_written_16 (by decide) (fun q8 => ?_) (fun q8 => ?_)
    · have h := ifn q8 h
      refine lv_aload_n hx hb dX11_written_22 rfl (lv_at hl 0 rfl) ?_
      refine g_X11_81 hF hW dX11_written_23 ?_
      obtain ⟨M10, hc11, h⟩ := bm_some h
      refine cV_v (ci := 10) (q0 := 55) (rest := []) hF hW mw_X11_400 (c_X10_partLines l K a d hc11) ⟨Nat.le_of_ble_eq_true rfl, Nat.le_of_ble_eq_true rfl⟩ rfl rfl (pC_55 K a d _) rfl hl.1 rfl (Nat.le_of_ble_eq_true rfl) dX11_written_26 ⟨Nat.le_of_ble_eq_true rfl, Nat.le_of_ble_eq_true rfl⟩ (fun _ H locs hW => ?_)
      refine lv_iload_n hx hb dX11_written_29 rfl (lv_at hl 1 rfl) ?_
      refine lv_iconst (v := 0) hx hb dX11_written_30 (by decide) ?_
      refine lv_aload_n hx hb dX11_written_31 rfl (lv_at hl 0 rfl) ?_
      refine g_X11_81 hF hW dX11_written_32 ?_
      refine g_X11_403 hF hW dX11_written_35 ?_
      refine lv_iconst (v := 1) hx hb dX11_written_38 (by decide) ?_
      refine lv_isub hx hb dX11_written_39 ?_
      obtain ⟨r12, hc14, h⟩ := bq_some h
      refine cS_i (rest := []) hF hW mw_X11_113 (c_X11_within l K hc14) ⟨Nat.le_of_ble_eq_true rfl, Nat.le_of_ble_eq_true rfl⟩ rfl hl.1 rfl (Nat.le_of_ble_eq_true rfl) dX11_written_40 ⟨Nat.le_of_ble_eq_true rfl, Nat.le_of_ble_eq_true rfl⟩ (fun _ H locs hW => ?_)
      refine lz_ne (tgt := 49) hx hb dX11_written_43 (by decide) (fun q15 => ?_) (fun q15 => ?_)
      · have h := ifp q15 h
        refine lv_aload_n hx hb dX11_written_49 rfl (lv_at hl 0 rfl) ?_
        refine lv_aload_n hx hb dX11_written_50 rfl (lv_at hl 0 rfl) ?_
        refine lv_iload_n hx hb dX11_written_51 rfl (lv_at hl 1 rfl) ?_
        refine lv_iload_n hx hb dX11_written_52 rfl (lv_at hl 2 rfl) ?_
        obtain ⟨r16, hc18, h⟩ := bq_some h
        refine cV_l (ci := 11) (q0 := 0) (rest := [.ref (a 0)]) hF hW mw_X11_406 (c_X11_tellLine l K a d hc18) ⟨Nat.le_of_ble_eq_true rfl, Nat.le_of_ble_eq_true rfl⟩ rfl rfl (pC_0 K a d _) rfl hl.1 rfl (Nat.le_of_ble_eq_true rfl) dX11_written_53 ⟨Nat.le_of_ble_eq_true rfl, Nat.le_of_ble_eq_true rfl⟩ (fun _ H locs hW => ?_)
        refine s_X11_92 (x := r16) hF hW dX11_written_56 (fun H locs hW => ?_)
        refine lv_iconst (v := 1) hx hb dX11_written_59 (by decide) ?_
        obtain ⟨rfl, rfl⟩ := Prod.mk.inj (Option.some.inj h)
        exact rt_i hF hr hk rfl (fun _ => 0) hW rfl dX11_written_60
      · have h := ifn q15 h
        refine lv_bipush (v := (-9)) hx hb dX11_written_46 (by decide) ?_
        obtain ⟨rfl, rfl⟩ := Prod.mk.inj (Option.some.inj h)
        exact rt_i hF hr hk rfl (fun _ => 0) hW rfl dX11_written_48
    · have h := ifp q8 h
      refine lv_bipush (v := (-6)) hx hb dX11_written_19 (by decide) ?_
      obtain ⟨rfl, rfl⟩ := Prod.mk.inj (Option.some.inj h)
      exact rt_i hF hr hk rfl (fun _ => 0) hW rfl dX11_written_21
  · have h := ifn q4 h
    refine lv_iconst (v := (-1)) hx hb dX11_written_10 (by decide) ?_
    obtain ⟨rfl, rfl⟩ := Prod.mk.inj (Option.some.inj h)
    exact rt_i hF hr hk rfl (fun _ => 0) hW rfl dX11_written_11
