/-! the law from its entry -/
set_option maxHeartbeats 4000000 in
set_option maxRecDepth 100000 in
theorem whole_start {p : Program} {e : Env} {s : State} {m : MethodId} {below : List Frame} {meth : Method} {c : Code} (l : Launch) {b L : Nat} {xs : Nat → Int32} (hL : L ≤ 3072) (C0 : lw_At p s m meth c b L xs) : W p l e room_1 s m #[Value.ref b] below meth c s.heap [] 0 0 (lw_Z below #[Value.ref b] s) (entryFrame m ([Value.ref b] : List Value).toArray 4) := by
  obtain ⟨hx, hb, hr, hml, hown, hts, hX, hbl, hlocks, hgv⟩ := id C0
  obtain ⟨K, hKF⟩ := kf0 hts
  have htt : ∀ w ∈ TT, w.before #[Value.ref b] s = true := fun w hw => hts w (List.mem_filter.mp hw).1
  have hF : Fx p s m #[Value.ref b] c code 4 RL K (fun q => s.heap.size ≤ q) := ⟨hx, hb, htt, hown, hKF, hml, fun _ h => h⟩
  have hW : Wd K (fun q => s.heap.size ≤ q) s [] s.heap [] := ⟨fun k q h => by simp at h, ⟨fun i j p q h => by simp at h, fun k q h => by simp at h⟩, va_S.rf⟩
  have hl := lv_entry ([.ref b]) (n := 4) (Nat.le_of_ble_eq_true rfl)
  rw [lg_entry_eq]
  generalize (lg_sl ([.ref b]) ++ List.replicate (4 - (lg_sl ([.ref b])).length) Slot.unset).toArray = ls at hl ⊢
  have hl : lv_has ls 4 [(0, .ref b)] := hl
  refine w_new (ci := 11) (fs := [.null, .null, .null, .null, .int 0, .null, .null, .null, .null, .null, .null, .long 0, .int 0, .null, .int 0, .int 0, .null]) hF hW rfl iX11 tyX11 tyX11_ok cl_L_7 is_X11 in_X11 (by decide +kernel) (Nat.le_of_ble_eq_true rfl) (Nat.le_of_ble_eq_true rfl) dL_law_0 (fun q0 H hW => ?_)
  refine lv_dup hx hb dL_law_3 rfl ?_
  refine cI_v (rest := [.ref q0]) hF hW ml_L_9 im_X11_init in_X11 cd_X11_init hd_X11_init rfl (c_X11_init l K) ⟨(Nat.le_of_ble_eq_true rfl), (Nat.le_of_ble_eq_true rfl)⟩ rfl hl.1 rfl (Nat.le_of_ble_eq_true rfl) dL_law_4 ⟨(Nat.le_of_ble_eq_true rfl), (Nat.le_of_ble_eq_true rfl)⟩ (fun u H locs hW => ?_)
  have hW : Wd K (fun q => s.heap.size ≤ q) s (wC K (ad q0 u) (fun _ => 0) Mc0) H locs := by rw [← eC]; exact hW
  refine lv_astore_n (lv' := [(1, .ref q0), (0, .ref b)]) hx hb dL_law_7 rfl hl (by decide) rfl (fun ls hl => ?_)
  refine w_new (ci := 12) (fs := [.int 0, .null, .null, .null, .int 0, .null, .null, .int 0, .null, .null, .null, .null, .null, .int 0, .null, .null, .null, .null, .null, .null, .null, .null, .int 0, .null, .null, .null, .null, .long 0, .int 0, .null, .null, .int 0, .int 0, .null, .null, .null, .null, .null, .null, .null, .int 0, .null, .null, .null, .null, .null, .null, .null, .null, .int 0, .int 0, .int 0, .null, .long 0, .long 0, .null, .null, .null, .int 0, .int 0, .null]) hF hW rfl iX12 tyX12 tyX12_ok cl_L_10 is_X12 in_X12 (by decide +kernel) (Nat.le_of_ble_eq_true rfl) (Nat.le_of_ble_eq_true rfl) dL_law_8 (fun q1 H hW => ?_)
  refine lv_dup hx hb dL_law_11 rfl ?_
  refine cI_v (rest := [.ref q1]) hF hW ml_L_12 im_X12_init in_X12 cd_X12_init hd_X12_init rfl (c_X12_init l K) ⟨(Nat.le_of_ble_eq_true rfl), (Nat.le_of_ble_eq_true rfl)⟩ rfl hl.1 rfl (Nat.le_of_ble_eq_true rfl) dL_law_12 ⟨(Nat.le_of_ble_eq_true rfl), (Nat.le_of_ble_eq_true rfl)⟩ (fun u2 H locs hW => ?_)
  have hW : Wd K (fun q => s.heap.size ≤ q) s (wC K (ad q0 u) (fun _ => 0) Mc0 ++ wM K (ad q1 u2) Mm0) H locs := by rw [← eM]; exact hW
  refine lv_astore_n (lv' := [(2, .ref q1), (1, .ref q0), (0, .ref b)]) hx hb dL_law_15 rfl hl (by decide) rfl (fun ls hl => ?_)
  refine lv_iconst (v := 0) hx hb dL_law_16 (by decide) ?_
  refine lv_istore_n (lv' := [(3, .int 0), (2, .ref q1), (1, .ref q0), (0, .ref b)]) hx hb dL_law_17 rfl hl (by decide) rfl (fun ls hl => ?_)
  exact law_loop (a := ad q0 u) (a2 := ad q1 u2) simAll hF hr hlocks hX hbl hL 114 146110 (by omega) (by omega) 600 0 rfl (by omega) Mc0 Mm0 (fun _ => 0) H locs ls rel0 hW (lv_sub hl [3, 2, 1, 0] rfl)
