/-! printed by wip/gen/gen_loop.py: the law's loop -/
def SimAll (Rel : Mem → Mem → Prop) : Prop := Sim_size Rel ∧ Sim_term Rel ∧ Sim_sum Rel ∧ Sim_loop Rel ∧ Sim_test Rel ∧ Sim_act Rel ∧ Sim_aim Rel ∧ Sim_node Rel ∧ Sim_hold Rel ∧ Sim_note Rel ∧ Sim_held Rel ∧ Sim_noted Rel ∧ Sim_copy Rel ∧ Sim_array Rel ∧ Sim_row Rel ∧ Sim_tear Rel ∧ Sim_lay Rel ∧ Sim_get Rel ∧ Sim_asked Rel ∧ Sim_visits Rel ∧ Sim_visit Rel ∧ Sim_has Rel ∧ Sim_points Rel ∧ Sim_needs Rel ∧ Sim_carried Rel ∧ Sim_distance Rel ∧ Sim_free Rel ∧ Sim_swap Rel ∧ Sim_lean Rel ∧ Sim_back Rel ∧ Sim_shift Rel ∧ Sim_tile Rel ∧ Sim_part Rel ∧ Sim_join Rel ∧ Sim_undo Rel ∧ Sim_order Rel ∧ Sim_allowed Rel ∧ Sim_why Rel ∧ Sim_run Rel ∧ Sim_ended Rel ∧ Sim_fetched Rel ∧ Sim_best Rel ∧ Sim_lines Rel ∧ Sim_written Rel ∧ Sim_count Rel ∧ Sim_finding Rel ∧ Sim_findings Rel ∧ Sim_digest Rel
theorem lp_gt {L k : Nat} (hL : L ≤ 3072) (h : ¬ nI L - 6 < nI (6 * k)) (hk : k ≤ 600) : 6 * k + 6 ≤ L := by
  have h1 : (nI L - nI 6).toInt = (L : Int) - 6 := pk_sub_toInt (by omega) (by omega)
  have h2 : (nI (6 * k)).toInt = ((6 * k : Nat) : Int) := nI_toInt (by omega)
  rw [Int32.lt_iff_toInt_lt] at h
  have h3 : (nI L - 6).toInt = (L : Int) - 6 := h1
  rw [h3, h2] at h
  omega
set_option maxRecDepth 100000 in
set_option maxHeartbeats 4000000 in
theorem law_loop {p : Program} {l : Launch} {e : Env} {s : State} {m : MethodId} {below : List Frame} {meth : Method} {c : Code} {K : Kx} {b L : Nat} {xs : Nat → Int32} {Rel : Mem → Mem → Prop} {a a2 : Nat → Nat} (hS : SimAll Rel) (hF : Fx p s m #[Value.ref b] c code 4 RL K (fun q => s.heap.size ≤ q)) (hr : meth.sig.returnType = ret) (hlocks : meth.locks = false) (hX : va_X b L xs s s.heap) (hbl : b < s.heap.size) (hL : L ≤ 3072) (C0 S0 : Nat) (hC0 : C0 ≤ 200) (hS0 : S0 ≤ 200000) :
    ∀ (n k : Nat), k + n = 600 → 6 * k ≤ L + 6 → ∀ (Mc Mm : Mem) (d : Nat → Nat) (H : Heap) (locs : List Loc) (ls : Array Slot), Rel Mc Mm → Wd K (fun q => s.heap.size ≤ q) s (wC K a d Mc ++ wM K a2 Mm) H locs → lv_has ls 4 [(0, .ref b), (1, .ref (a 0)), (2, .ref (a2 0)), (3, .int (nI (6 * k)))] →
      W p l e room_1 s m #[Value.ref b] below meth c H locs (C0 + 3 * k) (S0 + 1358 * k) (lw_Z below #[Value.ref b] s) (F0 m 18 ls []) := by
  obtain ⟨h0, h1, h2, h3, h4, h5, h6, h7, h8, h9, h10, h11, h12, h13, h14, h15, h16, h17, h18, h19, h20, h21, h22, h23, h24, h25, h26, h27, h28, h29, h30, h31, h32, h33, h34, h35, h36, h37, h38, h39, h40, h41, h42, h43, h44, h45, h46, h47⟩ := hS
  have hx := hF.1
  have hb := hF.2.1
  have hbA : ¬ (fun q : Nat => s.heap.size ≤ q) b := Nat.not_le.mpr hbl
  intro n
  induction n with
  | zero => intro k hk hk6; omega
  | succ n ih =>
    intro k hk hk6 Mc Mm d H locs ls hRel hW hl
    refine lv_iload_n hx hb dL_law_18 rfl (lv_at hl 3 rfl) ?_
    refine lv_aload_n hx hb dL_law_19 rfl (lv_at hl 0 rfl) ?_
    refine va_slen hx hb hX hbl hbA hW.2.2 dL_law_20 ?_
    refine lv_bipush (v := 6) hx hb dL_law_21 (by decide) ?_
    refine lv_isub hx hb dL_law_23 ?_
    refine lv_icmp_gt (tgt := 1936) hx hb dL_law_24 (by decide) (fun q => ?_) (fun q => ?_)
    · refine lv_iconst (v := 1) hx hb dL_law_1936 (by decide) ?_
      refine va_forget (fun q hq => hW.2.2.2.2 q hq) ?_
      refine W.widen (k := 600000) (n := 7302250) (by omega) (by omega) ?_
      exact lw_ret hx hb hr hlocks dL_law_1937
    have hi : 6 * k + 6 ≤ L := lp_gt hL q (by omega)
    refine lv_aload_n hx hb dL_law_27 rfl (lv_at hl 0 rfl) ?_
    refine lv_iload_n hx hb dL_law_28 rfl (lv_at hl 3 rfl) ?_
    refine va_sld hx hb hX hbl hbA hW.2.2 (vp_in_nI (by omega) (by omega)) dL_law_29 ?_
    refine lv_bipush (v := 63) hx hb dL_law_30 (by decide) ?_
    refine lv_iand hx hb dL_law_32 ?_
    have next : ∀ (Mc1 Mm1 : Mem) (d : Nat → Nat) (H : Heap) (locs : List Loc), Rel Mc1 Mm1 → Wd K (fun q => s.heap.size ≤ q) s (wC K a d Mc1 ++ wM K a2 Mm1) H locs → W p l e room_1 s m #[Value.ref b] below meth c H locs (C0 + 3 * k + 3) (S0 + 1358 * k + 1358) (lw_Z below #[Value.ref b] s) (F0 m 1930 ls []) := by
      intro Mc1 Mm1 d H locs hRel hW
      refine lv_iinc (v := nI (6 * (k + 1))) (lv' := [(3, .int (nI (6 * (k + 1)))), (0, .ref b), (1, .ref (a 0)), (2, .ref (a2 0))]) hx hb dL_law_1930 hl (k := 3) rfl (nI_add (6 * k) 6) (by decide) rfl (fun ls hl => ?_)
      refine lv_goto (tgt := 18) hx hb dL_law_1933 (by decide) ?_
      exact ih (k + 1) (by omega) (by omega) Mc1 Mm1 d H locs ls hRel hW (lv_sub hl [1, 2, 3, 0] rfl)
    obtain ⟨j, hj, ej⟩ := pk_andE (xs (nI (6 * k)).toNatClampNeg) (m := 63) 6 (by decide)
    rw [ej]
    have hce : C0 + 3 * k + 3 ≤ 600000 := by omega
    have hsl : S0 + 1358 * k + 1358 ≤ 7302250 := by omega
    match j, hj with
    | 0, _ =>
      refine lv_tableIn (off := 207) (tgt := 240) hx hb dL_law_33 (by decide) (by decide) rfl (by decide) ?_
      exact lc_0 hF hX hbl hbA hi hL h0 hRel hW hl hce hsl next
    | 1, _ =>
      refine lv_tableIn (off := 240) (tgt := 273) hx hb dL_law_33 (by decide) (by decide) rfl (by decide) ?_
      exact lc_1 hF hX hbl hbA hi hL h1 hRel hW hl hce hsl next
    | 2, _ =>
      refine lv_tableIn (off := 273) (tgt := 306) hx hb dL_law_33 (by decide) (by decide) rfl (by decide) ?_
      exact lc_2 hF hX hbl hbA hi hL h2 hRel hW hl hce hsl next
    | 3, _ =>
      refine lv_tableIn (off := 286) (tgt := 319) hx hb dL_law_33 (by decide) (by decide) rfl (by decide) ?_
      exact lc_3 hF hX hbl hbA hi hL h3 hRel hW hl hce hsl next
    | 4, _ =>
      refine lv_tableIn (off := 355) (tgt := 388) hx hb dL_law_33 (by decide) (by decide) rfl (by decide) ?_
      exact lc_4 hF hX hbl hbA hi hL h4 hRel hW hl hce hsl next
    | 5, _ =>
      refine lv_tableIn (off := 398) (tgt := 431) hx hb dL_law_33 (by decide) (by decide) rfl (by decide) ?_
      exact lc_5 hF hX hbl hbA hi hL h5 hRel hW hl hce hsl next
    | 6, _ =>
      refine lv_tableIn (off := 441) (tgt := 474) hx hb dL_law_33 (by decide) (by decide) rfl (by decide) ?_
      exact lc_6 hF hX hbl hbA hi hL h6 hRel hW hl hce hsl next
    | 7, _ =>
      refine lv_tableIn (off := 504) (tgt := 537) hx hb dL_law_33 (by decide) (by decide) rfl (by decide) ?_
      exact lc_7 hF hX hbl hbA hi hL h7 hRel hW hl hce hsl next
    | 8, _ =>
      refine lv_tableIn (off := 537) (tgt := 570) hx hb dL_law_33 (by decide) (by decide) rfl (by decide) ?_
      exact lc_8 hF hX hbl hbA hi hL h8 hRel hW hl hce hsl next
    | 9, _ =>
      refine lv_tableIn (off := 570) (tgt := 603) hx hb dL_law_33 (by decide) (by decide) rfl (by decide) ?_
      exact lc_9 hF hX hbl hbA hi hL h9 hRel hW hl hce hsl next
    | 10, _ =>
      refine lv_tableIn (off := 603) (tgt := 636) hx hb dL_law_33 (by decide) (by decide) rfl (by decide) ?_
      exact lc_10 hF hX hbl hbA hi hL h10 hRel hW hl hce hsl next
    | 11, _ =>
      refine lv_tableIn (off := 636) (tgt := 669) hx hb dL_law_33 (by decide) (by decide) rfl (by decide) ?_
      exact lc_11 hF hX hbl hbA hi hL h11 hRel hW hl hce hsl next
    | 12, _ =>
      refine lv_tableIn (off := 679) (tgt := 712) hx hb dL_law_33 (by decide) (by decide) rfl (by decide) ?_
      exact lc_12 hF hX hbl hbA hi hL h12 hRel hW hl hce hsl next
    | 13, _ =>
      refine lv_tableIn (off := 742) (tgt := 775) hx hb dL_law_33 (by decide) (by decide) rfl (by decide) ?_
      exact lc_13 hF hX hbl hbA hi hL h13 hRel hW hl hce hsl next
    | 14, _ =>
      refine lv_tableIn (off := 775) (tgt := 808) hx hb dL_law_33 (by decide) (by decide) rfl (by decide) ?_
      exact lc_14 hF hX hbl hbA hi hL h14 hRel hW hl hce hsl next
    | 15, _ =>
      refine lv_tableIn (off := 818) (tgt := 851) hx hb dL_law_33 (by decide) (by decide) rfl (by decide) ?_
      exact lc_15 hF hX hbl hbA hi hL h15 hRel hW hl hce hsl next
    | 16, _ =>
      refine lv_tableIn (off := 851) (tgt := 884) hx hb dL_law_33 (by decide) (by decide) rfl (by decide) ?_
      exact lc_16 hF hX hbl hbA hi hL h16 hRel hW hl hce hsl next
    | 17, _ =>
      refine lv_tableIn (off := 934) (tgt := 967) hx hb dL_law_33 (by decide) (by decide) rfl (by decide) ?_
      exact lc_17 hF hX hbl hbA hi hL h17 hRel hW hl hce hsl next
    | 18, _ =>
      refine lv_tableIn (off := 977) (tgt := 1010) hx hb dL_law_33 (by decide) (by decide) rfl (by decide) ?_
      exact lc_18 hF hX hbl hbA hi hL h18 hRel hW hl hce hsl next
    | 19, _ =>
      refine lv_tableIn (off := 991) (tgt := 1024) hx hb dL_law_33 (by decide) (by decide) rfl (by decide) ?_
      exact lc_19 hF hX hbl hbA hi hL h19 hRel hW hl hce hsl next
    | 20, _ =>
      refine lv_tableIn (off := 1004) (tgt := 1037) hx hb dL_law_33 (by decide) (by decide) rfl (by decide) ?_
      exact lc_20 hF hX hbl hbA hi hL h20 hRel hW hl hce hsl next
    | 21, _ =>
      refine lv_tableIn (off := 1063) (tgt := 1096) hx hb dL_law_33 (by decide) (by decide) rfl (by decide) ?_
      exact lc_21 hF hX hbl hbA hi hL h21 hRel hW hl hce hsl next
    | 22, _ =>
      refine lv_tableIn (off := 1126) (tgt := 1159) hx hb dL_law_33 (by decide) (by decide) rfl (by decide) ?_
      exact lc_22 hF hX hbl hbA hi hL h22 hRel hW hl hce hsl next
    | 23, _ =>
      refine lv_tableIn (off := 1149) (tgt := 1182) hx hb dL_law_33 (by decide) (by decide) rfl (by decide) ?_
      exact lc_23 hF hX hbl hbA hi hL h23 hRel hW hl hce hsl next
    | 24, _ =>
      refine lv_tableIn (off := 1192) (tgt := 1225) hx hb dL_law_33 (by decide) (by decide) rfl (by decide) ?_
      exact lc_24 hF hX hbl hbA hi hL h24 hRel hW hl hce hsl next
    | 25, _ =>
      refine lv_tableIn (off := 1215) (tgt := 1248) hx hb dL_law_33 (by decide) (by decide) rfl (by decide) ?_
      exact lc_25 hF hX hbl hbA hi hL h25 hRel hW hl hce hsl next
    | 26, _ =>
      refine lv_tableIn (off := 1284) (tgt := 1317) hx hb dL_law_33 (by decide) (by decide) rfl (by decide) ?_
      exact lc_26 hF hX hbl hbA hi hL h26 hRel hW hl hce hsl next
    | 27, _ =>
      refine lv_tableIn (off := 1307) (tgt := 1340) hx hb dL_law_33 (by decide) (by decide) rfl (by decide) ?_
      exact lc_27 hF hX hbl hbA hi hL h27 hRel hW hl hce hsl next
    | 28, _ =>
      refine lv_tableIn (off := 1340) (tgt := 1373) hx hb dL_law_33 (by decide) (by decide) rfl (by decide) ?_
      exact lc_28 hF hX hbl hbA hi hL h28 hRel hW hl hce hsl next
    | 29, _ =>
      refine lv_tableIn (off := 1383) (tgt := 1416) hx hb dL_law_33 (by decide) (by decide) rfl (by decide) ?_
      exact lc_29 hF hX hbl hbA hi hL h29 hRel hW hl hce hsl next
    | 30, _ =>
      refine lv_tableIn (off := 1406) (tgt := 1439) hx hb dL_law_33 (by decide) (by decide) rfl (by decide) ?_
      exact lc_30 hF hX hbl hbA hi hL h30 hRel hW hl hce hsl next
    | 31, _ =>
      refine lv_tableIn (off := 1449) (tgt := 1482) hx hb dL_law_33 (by decide) (by decide) rfl (by decide) ?_
      exact lc_31 hF hX hbl hbA hi hL h31 hRel hW hl hce hsl next
    | 32, _ =>
      refine lv_tableIn (off := 1492) (tgt := 1525) hx hb dL_law_33 (by decide) (by decide) rfl (by decide) ?_
      exact lc_32 hF hX hbl hbA hi hL h32 hRel hW hl hce hsl next
    | 33, _ =>
      refine lv_tableIn (off := 1515) (tgt := 1548) hx hb dL_law_33 (by decide) (by decide) rfl (by decide) ?_
      exact lc_33 hF hX hbl hbA hi hL h33 hRel hW hl hce hsl next
    | 34, _ =>
      refine lv_tableIn (off := 1548) (tgt := 1581) hx hb dL_law_33 (by decide) (by decide) rfl (by decide) ?_
      exact lc_34 hF hX hbl hbA hi hL h34 hRel hW hl hce hsl next
    | 35, _ =>
      refine lv_tableIn (off := 1561) (tgt := 1594) hx hb dL_law_33 (by decide) (by decide) rfl (by decide) ?_
      exact lc_35 hF hX hbl hbA hi hL h35 hRel hW hl hce hsl next
    | 36, _ =>
      refine lv_tableIn (off := 1604) (tgt := 1637) hx hb dL_law_33 (by decide) (by decide) rfl (by decide) ?_
      exact lc_36 hF hX hbl hbA hi hL h36 hRel hW hl hce hsl next
    | 37, _ =>
      refine lv_tableIn (off := 1617) (tgt := 1650) hx hb dL_law_33 (by decide) (by decide) rfl (by decide) ?_
      exact lc_37 hF hX hbl hbA hi hL h37 hRel hW hl hce hsl next
    | 38, _ =>
      refine lv_tableIn (off := 1640) (tgt := 1673) hx hb dL_law_33 (by decide) (by decide) rfl (by decide) ?_
      exact lc_38 hF hX hbl hbA hi hL h38 hRel hW hl hce hsl next
    | 39, _ =>
      refine lv_tableIn (off := 1679) (tgt := 1712) hx hb dL_law_33 (by decide) (by decide) rfl (by decide) ?_
      exact lc_39 hF hX hbl hbA hi hL h39 hRel hW hl hce hsl next
    | 40, _ =>
      refine lv_tableIn (off := 1702) (tgt := 1735) hx hb dL_law_33 (by decide) (by decide) rfl (by decide) ?_
      exact lc_40 hF hX hbl hbA hi hL h40 hRel hW hl hce hsl next
    | 41, _ =>
      refine lv_tableIn (off := 1735) (tgt := 1768) hx hb dL_law_33 (by decide) (by decide) rfl (by decide) ?_
      exact lc_41 hF hX hbl hbA hi hL h41 hRel hW hl hce hsl next
    | 42, _ =>
      refine lv_tableIn (off := 1778) (tgt := 1811) hx hb dL_law_33 (by decide) (by decide) rfl (by decide) ?_
      exact lc_42 hF hX hbl hbA hi hL h42 hRel hW hl hce hsl next
    | 43, _ =>
      refine lv_tableIn (off := 1791) (tgt := 1824) hx hb dL_law_33 (by decide) (by decide) rfl (by decide) ?_
      exact lc_43 hF hX hbl hbA hi hL h43 hRel hW hl hce hsl next
    | 44, _ =>
      refine lv_tableIn (off := 1824) (tgt := 1857) hx hb dL_law_33 (by decide) (by decide) rfl (by decide) ?_
      exact lc_44 hF hX hbl hbA hi hL h44 hRel hW hl hce hsl next
    | 45, _ =>
      refine lv_tableIn (off := 1847) (tgt := 1880) hx hb dL_law_33 (by decide) (by decide) rfl (by decide) ?_
      exact lc_45 hF hX hbl hbA hi hL h45 hRel hW hl hce hsl next
    | 46, _ =>
      refine lv_tableIn (off := 1860) (tgt := 1893) hx hb dL_law_33 (by decide) (by decide) rfl (by decide) ?_
      exact lc_46 hF hX hbl hbA hi hL h46 hRel hW hl hce hsl next
    | 47, _ =>
      refine lv_tableIn (off := 1883) (tgt := 1916) hx hb dL_law_33 (by decide) (by decide) rfl (by decide) ?_
      exact lc_47 hF hX hbl hbA hi hL h47 hRel hW hl hce hsl next
    | j + 48, hj =>
      refine lv_tableOut (tgt := 1930) hx hb dL_law_33 (by rw [nI_toInt (by omega)]; omega) (by decide) ?_
      refine W.widen (k := C0 + 3 * k + 3) (n := S0 + 1358 * k + 1358) (by omega) (by omega) ?_
      exact next Mc Mm d H locs hRel hW
