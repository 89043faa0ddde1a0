/-! Rack(kind, n); the rows of 'new Sheet()', 'new Rack(kind, n)', and of a store into an array of references -/
set_option maxRecDepth 100000 in
set_option maxHeartbeats 1000000 in
theorem c_X5_init (l : Launch) (K : Kx) {ws : va_W} {h0 N : Nat} {x1 : Int32} (hN : N ≤ 20) : CMv l yX5_init cX5_init 3 ({ frames := 1, cells := 2, slots := 420, locals := 40 } : Room) K [.ref h0, .int x1, .int (nI N)] (ws ++ [(h0, .inr (5, [.int 0, .null, .null]))]) (fun u => ws ++ [(h0, .inr (5, [.int x1, .ref (u 0), .ref (u 1)])), (u 0, .inl (K.2 0, N, .inl (fl_ (fun _ => 0) 0 N (-1)))), (u 1, .inl (K.2 1, N * 20, .inr (.inl (fun _ => 0))))]) := by
  refine cs_v (by decide +kernel) (Nat.le_of_ble_eq_true rfl) ?_
  intro p e s m args below meth c A ls hF hr hk hnm hW hl
  have hx := hF.1
  have hb := hF.2.1
  have hl : lv_has ls 3 [(0, .ref h0), (1, .int x1), (2, .int (nI N))] := hl
  obtain ⟨H, hH⟩ : ∃ z, z = s.heap := ⟨_, rfl⟩
  rw [← hH] at hW ⊢
  refine lv_aload_n hx hb dX5_init_0 rfl (lv_at hl 0 rfl) ?_
  refine w_obj hF ob_X5_3 hl.1 (Nat.le_of_ble_eq_true rfl) (Nat.le_of_ble_eq_true rfl) dX5_init_1 ?_
  refine lv_aload_n hx hb dX5_init_4 rfl (lv_at hl 0 rfl) ?_
  refine lv_iload_n hx hb dX5_init_5 rfl (lv_at hl 1 rfl) ?_
  refine w_putF (ty := .int) hF hnm hW (ap_get _ _ _) rfl iX5 tyX5 tyX5_ok nmX5 0 (by decide) fl_X5_9 rfl rfl (by decide +kernel) rfl rfl (Nat.le_of_ble_eq_true rfl) (ap_set _ _ _ _) dX5_init_6 (fun H locs hW => ?_)
  refine lv_aload_n hx hb dX5_init_9 rfl (lv_at hl 0 rfl) ?_
  refine lv_iload_n hx hb dX5_init_10 rfl (lv_at hl 2 rfl) ?_
  refine w_newI (N := N) hF hW (nI_pos (by omega)) (nI_clamp (by omega)) (by omega) (Nat.le_of_ble_eq_true rfl) (by show 0 + N ≤ 420; omega) dX5_init_11 (fun q1 H hW => ?_)
  have hW : Wd K A s (ws ++ [(h0, .inr (5, [.int x1, .null, .null])), (q1, .inl (K.2 0, N, .inl (fun _ => 0)))]) H locs := by rw [List.append_assoc] at hW; exact hW
  refine w_putF (ty := .array .int) hF hnm hW (ap_get _ _ _) rfl iX5 tyX5 tyX5_ok nmX5 1 (by decide) fl_X5_15 rfl rfl (by decide +kernel) rfl rfl (Nat.le_of_ble_eq_true rfl) (ap_set _ _ _ _) dX5_init_13 (fun H locs hW => ?_)
  refine lv_aload_n hx hb dX5_init_16 rfl (lv_at hl 0 rfl) ?_
  refine lv_iload_n hx hb dX5_init_17 rfl (lv_at hl 2 rfl) ?_
  refine lv_bipush (v := 20) hx hb dX5_init_18 (by decide) ?_
  refine lv_imul hx hb dX5_init_20 ?_
  rw [show nI N * 20 = nI (N * 20) from pk_mul N 20]
  refine w_newL (N := N * 20) hF hW (nI_pos (by omega)) (nI_clamp (by omega)) (by omega) (Nat.le_of_ble_eq_true rfl) (by show 0 + N + N * 20 ≤ 420; omega) dX5_init_21 (fun q2 H hW => ?_)
  have hW : Wd K A s (ws ++ [(h0, .inr (5, [.int x1, .ref q1, .null])), (q1, .inl (K.2 0, N, .inl (fun _ => 0))), (q2, .inl (K.2 1, N * 20, .inr (.inl (fun _ => 0))))]) H locs := by rw [List.append_assoc] at hW; exact hW
  refine w_putF (ty := .array .long) hF hnm hW (ap_get _ _ _) rfl iX5 tyX5 tyX5_ok nmX5 2 (by decide) fl_X5_19 rfl rfl (by decide +kernel) rfl rfl (Nat.le_of_ble_eq_true rfl) (ap_set _ _ _ _) dX5_init_23 (fun H locs hW => ?_)
  refine lv_aload_n hx hb dX5_init_26 rfl (lv_at hl 0 rfl) ?_
  refine w_get hF hW (ap_get _ _ _) rfl iX5 1 (by decide) fl_X5_15 rfl dX5_init_27 ?_
  refine lv_iconst (v := (-1)) hx hb dX5_init_30 (by decide) ?_
  refine cS_v (rest := []) hF hW mw_X5_23 (c_fillI_a l K (ap_get1 _ _ _ _) (by omega)) ⟨Nat.le_of_ble_eq_true rfl, Nat.le_of_ble_eq_true rfl⟩ rfl hl.1 rfl (Nat.le_of_ble_eq_true rfl) dX5_init_31 ⟨by show 0 + 1 + 1 + 0 ≤ 2; omega, by show 0 + N + N * 20 + 0 ≤ 420; omega⟩ (fun _ H locs hW => ?_)
  rw [ap_set1] at hW
  refine W.widen (k := 2) (n := 420) (by show 0 + 1 + 1 + 0 ≤ 2; omega) (by show 0 + N + N * 20 + 0 ≤ 420; omega) ?_
  exact rt_v hF hr hk (fun k => if k = 0 then q1 else q2) hW dX5_init_34
theorem uQ_25 (K : Kx) (a d : Nat → Nat) (M : Mem) (k i : Nat) : (wC K a d M).set 25 (a 25, .inl (K.2 3, 8, .inr (.inr (.inr (.inr (va_up (fun k => (M.2.2.1 25 k).map (fun i => d (6 * i))) k (some (d (6 * i))))))))) = wC K a d (sQ M 25 k (some i)) := by
  have e : va_up (fun k => (M.2.2.1 25 k).map (fun i => d (6 * i))) k (some (d (6 * i))) = fun j => ((sQ M 25 k (some i)).2.2.1 25 j).map (fun i => d (6 * i)) := by
    funext j
    show _ = Option.map _ (va_up (M.2.2.1 25) k (some i) j)
    by_cases h : j = k
    · subst h; rw [va_up_self, va_up_self]; rfl
    · rw [va_up_ne _ _ h, va_up_ne _ _ h]
  rw [e]; rfl
theorem uQ_33 (K : Kx) (a d : Nat → Nat) (M : Mem) (k i : Nat) : (wC K a d M).set 33 (a 33, .inl (K.2 4, 20, .inr (.inr (.inr (.inr (va_up (fun k => (M.2.2.1 33 k).map (fun i => d (6 * i + 3))) k (some (d (6 * i + 3))))))))) = wC K a d (sQ M 33 k (some i)) := by
  have e : va_up (fun k => (M.2.2.1 33 k).map (fun i => d (6 * i + 3))) k (some (d (6 * i + 3))) = fun j => ((sQ M 33 k (some i)).2.2.1 33 j).map (fun i => d (6 * i + 3)) := by
    funext j
    show _ = Option.map _ (va_up (M.2.2.1 33) k (some i) j)
    by_cases h : j = k
    · subst h; rw [va_up_self, va_up_self]; rfl
    · rw [va_up_ne _ _ h, va_up_ne _ _ h]
  rw [e]; rfl
section
variable {p : Program} {l : Launch} {e : Env} {R : Room} {s : State} {m : MethodId} {args : Array Value} {below : List Frame} {meth : Method} {c : Code} {H : Heap} {locs : List Loc} {cells slots : Nat} {Q : State → Prop} {cc : ByteArray} {nL : Nat} {own : String} {K : Kx} {A : Nat → Prop} {pc : Nat} {ls : Array Slot} {rest : List Value} {ws ws1 : va_W} {ws' : (Nat → Nat) → va_W} {a q0 : Nat}
variable {y : MethodName} {bytes : ByteArray} {maxL idx n : Nat} {rm : Room} {C : String} {As : List Value} {st : List Value} {ret : Option FieldType} {b : Nat} {host : String}
theorem w_qst {qk ci nn v t0 : Nat} {r : vw_C} {vs : List Value} {f : Nat → Option Nat} {i : Int32} {cA : ClassId} (hF : Fx p s m args c cc nL own K A) (hW : Wd K A s ws H locs) (he : ws[q0]? = some (a, .inl (cA, nn, .inr (.inr (.inr (.inr f)))))) (ht : (tysK K)[t0]? = some (cA, .object r.1)) (hv : ws[qk]? = some (v, .inr (ci, vs))) (hc : vwCl[ci]? = some r) (hin : vp_in i nn) (hws : ws.set q0 (a, .inl (cA, nn, .inr (.inr (.inr (.inr (va_up f i.toNatClampNeg (some v))))))) = ws1) (hdg : decode cc pc = .ok (.aastore, 1))
    (kk : ∀ (H1 : Heap) (locs1 : List Loc), Wd K A s ws1 H1 locs1 → W p l e R s m args below meth c H1 locs1 cells slots Q (F0 m (pc + 1) ls rest)) : W p l e R s m args below meth c H locs cells slots Q (F0 m pc ls (.ref v :: .int i :: .ref a :: rest)) := by
  subst hws
  exact va_astq hF.1 hF.2.1 hF.2.2.2.2.1.1 hW.1 hW.2.1 hW.2.2 q0 t0 qk ci he ht hv hc hin hdg (fun H1 l1 a b c => kk H1 l1 ⟨a, b, c⟩)
/-- the call of a constructor of a nest mate -/
theorem cIN_v (hF : Fx p s m args c cc nL own K A) (hW : Wd K A s ws H locs) (h1 : Cond.methodLinkNest own idx y host ∈ nestW) (h2 : Cond.instanceMethod y ∈ TT) (h3 : Cond.initialized y.cls ∈ TT) (h4 : Cond.code y bytes maxL none ∈ TT) (hd : y.cls ≠ "java/lang/invoke/MethodHandle" ∧ y.cls ≠ "java/lang/invoke/VarHandle" ∧ (parseMethodDescriptor y.desc).map (fun d => d.parameters.length) = some n) (hy : y.name = "<init>") (hM : CMv l y bytes maxL rm K (.ref b :: As) ws ws')
    (hR : rm.frames + 1 ≤ R.frames ∧ 8 + (maxL + 11) + rm.locals ≤ R.locals)
    (hn : As.length = n) (hsz : ls.size = nL) (hst : st = As.reverse ++ .ref b :: rest) (hrm : (rest.map fun v => v.category).sum ≤ 8) (hdg : decode cc pc = .ok (.invokespecial idx, 3)) (hce : cells + rm.cells ≤ R.cells ∧ slots + rm.slots ≤ R.slots)
    (kk : ∀ (u : Nat → Nat) (H1 : Heap) (locs1 : List Loc), Wd K A s (ws' u) H1 locs1 → W p l e R s m args below meth c H1 locs1 (cells + rm.cells) (slots + rm.slots) Q (F0 m (pc + 3) ls rest)) :
    W p l e R s m args below meth c H locs cells slots Q (F0 m pc ls st) := by
  subst hst
  have hf := wd_free hF hW
  refine va_callv (va_runIN (As := As) (rest := rest) ⟨hF.1, hF.2.1, hF.2.2.2.2.2.1, hF.2.2.2.1, hF.2.2.1⟩ (hM H.size) ⟨va_cnB n hF.2.2.1 (good_M h4) rfl rfl rfl (hF.2.2.2.2.1.2.1 _ h1) (hF.2.2.1 _ h3) hd hR, hy, hF.2.2.1 _ h2⟩ ⟨PreW.blind, wd_pre hF hW⟩ rfl hn hsz rfl (lv_room hrm) hdg hce) hW.2.2 (fun q _ h => hf q h) hf (fun u t H1 locs1 ht hvm hw hB hz hk hS => ?_)
  exact kk u H1 locs1 (wd_post hF hW ht hB hS)
theorem cI_v (hF : Fx p s m args c cc nL own K A) (hW : Wd K A s ws H locs) (h1 : Cond.methodLink own idx y ∈ TT) (h2 : Cond.instanceMethod y ∈ TT) (h3 : Cond.initialized y.cls ∈ TT) (h4 : Cond.code y bytes maxL none ∈ TT) (hd : y.cls ≠ "java/lang/invoke/MethodHandle" ∧ y.cls ≠ "java/lang/invoke/VarHandle" ∧ (parseMethodDescriptor y.desc).map (fun d => d.parameters.length) = some n) (hy : y.name = "<init>") (hM : CMv l y bytes maxL rm K (.ref b :: As) ws ws')
    (hR : rm.frames + 1 ≤ R.frames ∧ 8 + (maxL + 11) + rm.locals ≤ R.locals)
    (hn : As.length = n) (hsz : ls.size = nL) (hst : st = As.reverse ++ .ref b :: rest) (hrm : (rest.map fun v => v.category).sum ≤ 8) (hdg : decode cc pc = .ok (.invokespecial idx, 3)) (hce : cells + rm.cells ≤ R.cells ∧ slots + rm.slots ≤ R.slots)
    (kk : ∀ (u : Nat → Nat) (H1 : Heap) (locs1 : List Loc), Wd K A s (ws' u) H1 locs1 → W p l e R s m args below meth c H1 locs1 (cells + rm.cells) (slots + rm.slots) Q (F0 m (pc + 3) ls rest)) :
    W p l e R s m args below meth c H locs cells slots Q (F0 m pc ls st) := by
  subst hst
  have hf := wd_free hF hW
  refine va_callv (va_runI (As := As) (rest := rest) ⟨hF.1, hF.2.1, hF.2.2.2.2.2.1, hF.2.2.2.1, hF.2.2.1⟩ (hM H.size) ⟨callB_of n hF.2.2.1 (good_M h4) rfl rfl rfl (hF.2.2.1 _ h3) (hF.2.2.1 _ h1) hd hR, hy, hF.2.2.1 _ h2⟩ ⟨PreW.blind, wd_pre hF hW⟩ rfl hn hsz rfl (lv_room hrm) hdg hce) hW.2.2 (fun q _ h => hf q h) hf (fun u t H1 locs1 ht hvm hw hB hz hk hS => ?_)
  exact kk u H1 locs1 (wd_post hF hW ht hB hS)
theorem new_sheet {a d : Nat → Nat} {M : Mem} (hF : Fx p s m args c cc nL RX3 K A) (hW : Wd K A s (wC K a d M) H locs) (hfree : ∀ k, M.2.2.1 33 k ≠ some (M.2.2.2.2.2 1)) (hsz : ls.size = nL) (hrm : 1 + (rest.map fun v => v.category).sum ≤ 8) (hR : 2 ≤ R.frames ∧ 40 ≤ R.locals) (hce : cells + 3 ≤ R.cells) (hsl : slots + 1358 ≤ R.slots)
    (hd0 : decode cc pc = .ok (.new 9, 3)) (hd1 : decode cc (pc + 3) = .ok (.dup, 1)) (hd2 : decode cc (pc + 3 + 1) = .ok (.invokespecial 11, 3))
    (kk : ∀ (d : Nat → Nat) (H1 : Heap) (locs1 : List Loc), Wd K A s (wC K a d (nKt M)) H1 locs1 → W p l e R s m args below meth c H1 locs1 (cells + 3) (slots + 1358) Q (F0 m (pc + 3 + 1 + 3) ls (.ref (d (6 * M.2.2.2.2.2 1 + 3)) :: rest))) : W p l e R s m args below meth c H locs cells slots Q (F0 m pc ls rest) := by
  refine w_new (ci := 7) (fs := [.null, .null]) hF hW rfl iX7 tyX7 tyX7_ok cl_X3_9 is_X7 in_X7 (fun j hj => by rcases (show j = 0 ∨ j = 1 by omega) with rfl | rfl <;> rfl) (by omega) (by omega) hd0 (fun q H hW => ?_)
  refine lv_dup hF.1 hF.2.1 hd1 rfl ?_
  refine cIN_v (rest := .ref q :: rest) (host := "LoopLoom") hF hW (by decide +kernel) im_X7_init in_X7 cd_X7_init hd_X7_init rfl (c_X7_init l K) ⟨by show 1 + 1 ≤ _; omega, by show 8 + (1 + 11) + 20 ≤ _; omega⟩ rfl hsz rfl (by simpa [Value.category] using hrm) hd2 ⟨by show cells + 1 + 2 ≤ _; omega, by show slots + 2 + 1356 ≤ _; omega⟩ (fun u H locs hW => ?_)
  rw [push_K q (u 0) (u 1) hfree] at hW
  have k2 := kk _ H locs hW
  refine W.widen (k := cells + 3) (n := slots + 1358) (by show cells + 1 + 2 ≤ _; omega) (by show slots + 2 + 1356 ≤ _; omega) ?_
  rw [va_up_ne _ _ (show 6 * M.2.2.2.2.2 1 + 3 ≠ 6 * M.2.2.2.2.2 1 + 5 by omega), va_up_ne _ _ (show 6 * M.2.2.2.2.2 1 + 3 ≠ 6 * M.2.2.2.2.2 1 + 4 by omega), va_up_self] at k2
  exact k2
theorem new_rack {a d : Nat → Nat} {M : Mem} {x1 : Int32} {N : Nat} (hF : Fx p s m args c cc nL RX11 K A) (hW : Wd K A s (wC K a d M) H locs) (hfree : ∀ k, M.2.2.1 25 k ≠ some (M.2.2.2.2.2 0)) (hN : N ≤ 20) (hl1 : ls[1]? = some (.val (.int x1))) (hl2 : ls[2]? = some (.val (.int (nI N)))) (hsz : ls.size = nL) (hrm : 1 + (rest.map fun v => v.category).sum ≤ 8) (hR : 2 ≤ R.frames ∧ 62 ≤ R.locals) (hce : cells + 3 ≤ R.cells) (hsl : slots + 423 ≤ R.slots)
    (hd0 : decode cc pc = .ok (.new 30, 3)) (hd1 : decode cc (pc + 3) = .ok (.dup, 1)) (hd2 : decode cc (pc + 3 + 1) = .ok (.iload_n 1, 1)) (hd3 : decode cc (pc + 3 + 1 + 1) = .ok (.iload_n 2, 1)) (hd4 : decode cc (pc + 3 + 1 + 1 + 1) = .ok (.invokespecial 220, 3))
    (kk : ∀ (d : Nat → Nat) (H1 : Heap) (locs1 : List Loc), Wd K A s (wC K a d (nRk M x1 N)) H1 locs1 → W p l e R s m args below meth c H1 locs1 (cells + 3) (slots + 423) Q (F0 m (pc + 3 + 1 + 1 + 1 + 3) ls (.ref (d (6 * M.2.2.2.2.2 0)) :: rest))) : W p l e R s m args below meth c H locs cells slots Q (F0 m pc ls rest) := by
  refine w_new (ci := 5) (fs := [.int 0, .null, .null]) hF hW rfl iX5 tyX5 tyX5_ok cl_X11_30 is_X5 in_X5 (fun j hj => by rcases (show j = 0 ∨ j = 1 ∨ j = 2 by omega) with rfl | rfl | rfl <;> rfl) (by omega) (by omega) hd0 (fun q H hW => ?_)
  refine lv_dup hF.1 hF.2.1 hd1 rfl ?_
  refine lv_iload_n hF.1 hF.2.1 hd2 rfl hl1 ?_
  refine lv_iload_n hF.1 hF.2.1 hd3 rfl hl2 ?_
  refine cI_v (rest := .ref q :: rest) hF hW ml_X11_220 im_X5_init in_X5 cd_X5_init hd_X5_init rfl (c_X5_init l K hN) ⟨by show 1 + 1 ≤ _; omega, by show 8 + (3 + 11) + 40 ≤ _; omega⟩ rfl hsz rfl (by simpa [Value.category] using hrm) hd4 ⟨by show cells + 1 + 2 ≤ _; omega, by show slots + 3 + 420 ≤ _; omega⟩ (fun u H locs hW => ?_)
  have k2 := kk _ H locs (push_R q (u 0) (u 1) x1 N hfree hW)
  refine W.widen (k := cells + 3) (n := slots + 423) (by show cells + 1 + 2 ≤ _; omega) (by show slots + 3 + 420 ≤ _; omega) ?_
  rw [va_up_ne _ _ (show 6 * M.2.2.2.2.2 0 ≠ 6 * M.2.2.2.2.2 0 + 2 by omega), va_up_ne _ _ (show 6 * M.2.2.2.2.2 0 ≠ 6 * M.2.2.2.2.2 0 + 1 by omega), va_up_self] at k2
  exact k2
end
theorem nI_back {x : Int32} {n : Nat} (h : vp_in x n) (hn : n < 2 ^ 31) : x = nI x.toNatClampNeg := by
  obtain ⟨j, hj, rfl⟩ := vp_in_of h hn
  rw [nI_clamp (by omega)]
theorem in_le {x : Int32} {n : Nat} (h : vp_in x (n + 1)) : x.toNatClampNeg ≤ n := by
  unfold vp_in at h
  omega
