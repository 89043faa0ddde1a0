/-! making: arrays, objects; new sheets and racks -/
theorem ob_i : Cond.instanceMethod objectInit ∈ TT := tt1 23 (by decide +kernel) rfl
theorem ob_c : Cond.code objectInit ⟨#[0xb1]⟩ 1 none ∈ TT := tt1 24 (by decide +kernel) rfl
theorem ob_X11_1 : Cond.methodLink RX11 1 objectInit ∈ TT := tt1 22 (by decide +kernel) rfl
theorem ob_X0_3 : Cond.methodLink RX0 3 objectInit ∈ TT := tt1 205 (by decide +kernel) rfl
theorem ob_X1_3 : Cond.methodLink RX1 3 objectInit ∈ TT := tt2 51 (by decide +kernel) rfl
theorem ob_X2_3 : Cond.methodLink RX2 3 objectInit ∈ TT := tt1 53 (by decide +kernel) rfl
theorem ob_X3_3 : Cond.methodLink RX3 3 objectInit ∈ TT := tt1 157 (by decide +kernel) rfl
theorem ob_X4_3 : Cond.methodLink RX4 3 objectInit ∈ TT := tt1 137 (by decide +kernel) rfl
theorem ob_X5_3 : Cond.methodLink RX5 3 objectInit ∈ TT := tt3 225 (by decide +kernel) rfl
theorem ob_X6_3 : Cond.methodLink RX6 3 objectInit ∈ TT := tt2 175 (by decide +kernel) rfl
theorem ob_X7_3 : Cond.methodLink RX7 3 objectInit ∈ TT := tt1 163 (by decide +kernel) rfl
theorem ob_X8_3 : Cond.methodLink RX8 3 objectInit ∈ TT := tt1 30 (by decide +kernel) rfl
theorem ob_X9_3 : Cond.methodLink RX9 3 objectInit ∈ TT := tt2 10 (by decide +kernel) rfl
theorem ob_X10_3 : Cond.methodLink RX10 3 objectInit ∈ TT := tt2 108 (by decide +kernel) rfl
theorem ob_X12_1 : Cond.methodLink RX12 1 objectInit ∈ TT := tt6 79 (by decide +kernel) rfl
theorem ar_int : Cond.arrayClass .int ∈ TT := tt1 47 (by decide +kernel) rfl
theorem ar_long : Cond.arrayClass .long ∈ TT := tt2 4 (by decide +kernel) rfl
theorem ar_byte : Cond.arrayClass .byte ∈ TT := tt1 149 (by decide +kernel) rfl
theorem cl_X11_7 : Cond.classLink RX11 7 RX8 ∈ TT := tt1 25 (by decide +kernel) rfl
theorem cl_X11_16 : Cond.classLink RX11 16 RX2 ∈ TT := tt1 48 (by decide +kernel) rfl
theorem cl_X11_23 : Cond.classLink RX11 23 RX4 ∈ TT := tt1 132 (by decide +kernel) rfl
theorem cl_X11_30 : Cond.classLink RX11 30 RX5 ∈ TT := tt1 150 (by decide +kernel) rfl
theorem cl_X11_40 : Cond.classLink RX11 40 RX3 ∈ TT := tt1 152 (by decide +kernel) rfl
theorem cl_X11_49 : Cond.classLink RX11 49 RX0 ∈ TT := tt1 200 (by decide +kernel) rfl
theorem cl_X11_58 : Cond.classLink RX11 58 RX9 ∈ TT := tt2 5 (by decide +kernel) rfl
theorem cl_X11_67 : Cond.classLink RX11 67 RX1 ∈ TT := tt2 46 (by decide +kernel) rfl
theorem cl_X11_76 : Cond.classLink RX11 76 RX10 ∈ TT := tt2 103 (by decide +kernel) rfl
theorem cl_X11_85 : Cond.classLink RX11 85 RX6 ∈ TT := tt2 170 (by decide +kernel) rfl
theorem cl_X3_9 : Cond.classLink RX3 9 RX7 ∈ TT := tt1 158 (by decide +kernel) rfl
theorem cl_L_7 : Cond.classLink RL 7 RX11 ∈ TT := tt1 17 (by decide +kernel) rfl
theorem cl_L_10 : Cond.classLink RL 10 RX12 ∈ TT := tt6 74 (by decide +kernel) rfl
theorem is_X11 : Cond.instantiable RX11 17 ∈ TT := tt1 18 (by decide +kernel) rfl
theorem is_X8 : Cond.instantiable RX8 4 ∈ TT := tt1 26 (by decide +kernel) rfl
theorem is_X2 : Cond.instantiable RX2 17 ∈ TT := tt1 49 (by decide +kernel) rfl
theorem is_X4 : Cond.instantiable RX4 3 ∈ TT := tt1 133 (by decide +kernel) rfl
theorem is_X3 : Cond.instantiable RX3 6 ∈ TT := tt1 153 (by decide +kernel) rfl
theorem is_X7 : Cond.instantiable RX7 2 ∈ TT := tt1 159 (by decide +kernel) rfl
theorem is_X0 : Cond.instantiable RX0 9 ∈ TT := tt1 201 (by decide +kernel) rfl
theorem is_X9 : Cond.instantiable RX9 9 ∈ TT := tt2 6 (by decide +kernel) rfl
theorem is_X1 : Cond.instantiable RX1 15 ∈ TT := tt2 47 (by decide +kernel) rfl
theorem is_X10 : Cond.instantiable RX10 17 ∈ TT := tt2 104 (by decide +kernel) rfl
theorem is_X6 : Cond.instantiable RX6 5 ∈ TT := tt2 171 (by decide +kernel) rfl
theorem is_X5 : Cond.instantiable RX5 3 ∈ TT := tt3 221 (by decide +kernel) rfl
theorem is_X12 : Cond.instantiable RX12 61 ∈ TT := tt6 75 (by decide +kernel) rfl
theorem ap_get {α : Type} (l : List α) (x : α) (t : List α) : (l ++ x :: t)[l.length]? = some x := by simp
theorem ap_set {α : Type} (l : List α) (x y : α) (t : List α) : (l ++ x :: t).set l.length y = l ++ y :: t := by simp
theorem ap_get1 {α : Type} (l : List α) (x z : α) (t : List α) : (l ++ x :: z :: t)[l.length + 1]? = some z := by simp
theorem ap_set1 {α : Type} (l : List α) (x z y : α) (t : List α) : (l ++ x :: z :: t).set (l.length + 1) y = l ++ x :: y :: t := by simp
section
variable {p : Program} {l : Launch} {e : Env} {R : Room} {s : State} {m : MethodId} {args : Array Value} {below : List Frame} {meth : Method} {c : Code} {H : Heap} {locs : List Loc} {cells slots : Nat} {Q : State → Prop} {cc : ByteArray} {nL : Nat} {own : String} {K : Kx} {A : Nat → Prop} {pc : Nat} {ls : Array Slot} {rest : List Value} {ws ws1 : va_W} {a q0 : Nat}
theorem w_newI {n : Int32} {N : Nat} (hF : Fx p s m args c cc nL own K A) (hW : Wd K A s ws H locs) (hn : ¬ n < 0) (hN : n.toNatClampNeg = N) (hbt : N ≤ 134217728) (hc : cells + 1 ≤ R.cells) (hs : slots + N ≤ R.slots) (hdg : decode cc pc = .ok (.newarray .int, 2))
    (kk : ∀ (q : Nat) (H1 : Heap), Wd K A s (ws ++ [(q, .inl (K.2 0, N, .inl (fun _ => 0)))]) H1 locs → W p l e R s m args below meth c H1 locs (cells + 1) (slots + N) Q (F0 m (pc + 2) ls (.ref q :: rest))) : W p l e R s m args below meth c H locs cells slots Q (F0 m pc ls (.int n :: rest)) := by
  have hK := hF.2.2.2.2.1.1
  refine va_newa (atype := .int) (ty := .int) (a0 := (N, .inl (fun _ => 0))) hF.1 hF.2.1 (hF.2.2.1 _ ar_int) rfl hK hW.1 hW.2.1 hW.2.2 hF.2.2.2.2.2.2 (fun _ => rfl) hn hN (by show N * 4 ≤ _; omega) hc hs hdg (fun q cA H1 hK1 hP hD hS => ?_)
  have e1 : s.vm.findClass ("[" ++ FieldType.int.toString) = some (K.2 0) := (hK.2 0 (K.2 0, .int) rfl).2
  have e2 : s.vm.findClass ("[" ++ FieldType.int.toString) = some cA := (hK1.2 5 (cA, .int) rfl).2
  cases e1.symm.trans e2
  exact kk q H1 ⟨hP, hD, hS⟩
theorem w_newL {n : Int32} {N : Nat} (hF : Fx p s m args c cc nL own K A) (hW : Wd K A s ws H locs) (hn : ¬ n < 0) (hN : n.toNatClampNeg = N) (hbt : N ≤ 67108864) (hc : cells + 1 ≤ R.cells) (hs : slots + N ≤ R.slots) (hdg : decode cc pc = .ok (.newarray .long, 2))
    (kk : ∀ (q : Nat) (H1 : Heap), Wd K A s (ws ++ [(q, .inl (K.2 1, N, .inr (.inl (fun _ => 0))))]) H1 locs → W p l e R s m args below meth c H1 locs (cells + 1) (slots + N) Q (F0 m (pc + 2) ls (.ref q :: rest))) : W p l e R s m args below meth c H locs cells slots Q (F0 m pc ls (.int n :: rest)) := by
  have hK := hF.2.2.2.2.1.1
  refine va_newa (atype := .long) (ty := .long) (a0 := (N, .inr (.inl (fun _ => 0)))) hF.1 hF.2.1 (hF.2.2.1 _ ar_long) rfl hK hW.1 hW.2.1 hW.2.2 hF.2.2.2.2.2.2 (fun _ => rfl) hn hN (by show N * 8 ≤ _; omega) hc hs hdg (fun q cA H1 hK1 hP hD hS => ?_)
  have e1 : s.vm.findClass ("[" ++ FieldType.long.toString) = some (K.2 1) := (hK.2 1 (K.2 1, .long) rfl).2
  have e2 : s.vm.findClass ("[" ++ FieldType.long.toString) = some cA := (hK1.2 5 (cA, .long) rfl).2
  cases e1.symm.trans e2
  exact kk q H1 ⟨hP, hD, hS⟩
theorem w_newB {n : Int32} {N : Nat} (hF : Fx p s m args c cc nL own K A) (hW : Wd K A s ws H locs) (hn : ¬ n < 0) (hN : n.toNatClampNeg = N) (hbt : N ≤ 536870912) (hc : cells + 1 ≤ R.cells) (hs : slots + N ≤ R.slots) (hdg : decode cc pc = .ok (.newarray .byte, 2))
    (kk : ∀ (q : Nat) (H1 : Heap), Wd K A s (ws ++ [(q, .inl (K.2 2, N, .inl (fun _ => 0)))]) H1 locs → W p l e R s m args below meth c H1 locs (cells + 1) (slots + N) Q (F0 m (pc + 2) ls (.ref q :: rest))) : W p l e R s m args below meth c H locs cells slots Q (F0 m pc ls (.int n :: rest)) := by
  have hK := hF.2.2.2.2.1.1
  refine va_newa (atype := .byte) (ty := .byte) (a0 := (N, .inl (fun _ => 0))) hF.1 hF.2.1 (hF.2.2.1 _ ar_byte) rfl hK hW.1 hW.2.1 hW.2.2 hF.2.2.2.2.2.2 (fun _ => rfl) hn hN (by show N * 1 ≤ _; omega) hc hs hdg (fun q cA H1 hK1 hP hD hS => ?_)
  have e1 : s.vm.findClass ("[" ++ FieldType.byte.toString) = some (K.2 2) := (hK.2 2 (K.2 2, .byte) rfl).2
  have e2 : s.vm.findClass ("[" ++ FieldType.byte.toString) = some cA := (hK1.2 5 (cA, .byte) rfl).2
  cases e1.symm.trans e2
  exact kk q H1 ⟨hP, hD, hS⟩
theorem w_new {C : String} {T : u_T} {N ci idx : Nat} {fs : List Value} (hF : Fx p s m args c cc nL own K A) (hW : Wd K A s ws H locs) (hc : vwCl[ci]? = some (C, T, N)) (hin : ∀ w ∈ u_ws C T N, w ∈ TT) (ty : Nat → FieldType) (hty : ∀ k, k < N → parseFieldDescriptor (T k).2.2.1 = some (ty k)) (hcl : Cond.classLink own idx C ∈ TT) (his : Cond.instantiable C N ∈ TT) (hini : Cond.initialized C ∈ TT) (hfs : ∀ j, j < N → defaultValue (ty j) = vp_V fs j) (hce : cells + 1 ≤ R.cells) (hsl : slots + N ≤ R.slots) (hdg : decode cc pc = .ok (.new idx, 3))
    (kk : ∀ (q : Nat) (H1 : Heap), Wd K A s (ws ++ [(q, .inr (ci, fs))]) H1 locs → W p l e R s m args below meth c H1 locs (cells + 1) (slots + N) Q (F0 m (pc + 3) ls (.ref q :: rest))) : W p l e R s m args below meth c H locs cells slots Q (F0 m pc ls rest) :=
  va_new hF.1 hF.2.1 hF.2.2.1 hin ty hty hF.2.2.2.1 (hF.2.2.1 _ hcl) (hF.2.2.1 _ his) (hF.2.2.1 _ hini) hF.2.2.2.2.1.1 hW.1 hW.2.1 hW.2.2 hF.2.2.2.2.2.2 hc hfs hce hsl hdg (fun q H1 hP hD hS => kk q H1 ⟨hP, hD, hS⟩)
theorem w_obj {idx : Nat} (hF : Fx p s m args c cc nL own K A) (hl : Cond.methodLink own idx objectInit ∈ TT) (hsz : ls.size = nL) (hfr : 1 ≤ R.frames) (hlo : (rest.map fun v => v.category).sum + 12 ≤ R.locals) (hdg : decode cc pc = .ok (.invokespecial idx, 3))
    (kk : W p l e R s m args below meth c H locs cells slots Q (F0 m (pc + 3) ls rest)) : W p l e R s m args below meth c H locs cells slots Q (F0 m pc ls (.ref a :: rest)) := by
  refine W.objInit hF.1 hF.2.1 hF.2.2.2.1 (hF.2.2.1 _ hl) (hF.2.2.1 _ ob_i) (hF.2.2.1 _ ob_c) rfl (by rw [hF.2.2.2.2.2.1]; exact hsz) rfl hdg hfr ?_ kk
  simpa [JFrame.monitorRoom] using hlo
theorem w_putF {C : String} {T : u_T} {N ci idx : Nat} {fs : List Value} {v : Value} {ty : FieldType} (hF : Fx p s m args c cc nL own K A) (hnm0 : meth.name = "<init>") (hW : Wd K A s ws H locs) (he : ws[q0]? = some (a, .inr (ci, fs))) (hc : vwCl[ci]? = some (C, T, N)) (hin : ∀ w ∈ u_ws C T N, w ∈ TT)
    (ty0 : Nat → FieldType) (hty : ∀ k, k < N → parseFieldDescriptor (T k).2.2.1 = some (ty0 k)) (hnm : ∀ a, a < N → ∀ b, b < N → a ≠ b → (T a).2.1 ≠ (T b).2.1) (k : Nat) (hk : k < N)
    (hlink : Cond.fieldLink own idx (T k).1 (T k).2.1 (T k).2.2.1 ∈ TT) (hfin : (T k).2.2.2 = true) (hdecl : (T k).1 = own) (hd : parseFieldDescriptor (T k).2.2.1 = some ty) (hn : narrow ty v = v) (hfit : fits ty v = true) (hl : k < fs.length) (hws : ws.set q0 (a, .inr (ci, fs.set k v)) = ws1) (hdg : decode cc pc = .ok (.putfield idx, 3))
    (kk : ∀ (H1 : Heap) (locs1 : List Loc), Wd K A s ws1 H1 locs1 → W p l e R s m args below meth c H1 locs1 cells slots Q (F0 m (pc + 3) ls rest)) : W p l e R s m args below meth c H locs cells slots Q (F0 m pc ls (v :: .ref a :: rest)) := by
  subst hws
  exact va_putF hF.1 hF.2.1 hF.2.2.1 hin ty0 hty hnm hF.2.2.2.1 hF.2.2.2.2.1.1 hW.1 hW.2.1 hW.2.2 q0 he hc k hk (hF.2.2.1 _ hlink) (fun _ h => h) hfin hnm0 hdecl hd hn hfit hl hdg (fun H1 l1 a b c => kk H1 l1 ⟨a, b, c⟩)
end
set_option maxRecDepth 100000 in
set_option maxHeartbeats 1000000 in
/-- Sheet(): two arrays come -/
theorem c_X7_init (l : Launch) (K : Kx) {ws : va_W} {h0 : Nat} : CMv l yX7_init cX7_init 1 ({ frames := 1, cells := 2, slots := 1356, locals := 20 } : Room) K [.ref h0] (ws ++ [(h0, .inr (7, [.null, .null]))]) (fun u => ws ++ [(h0, .inr (7, [.ref (u 0), .ref (u 1)])), (u 0, .inl (K.2 0, 1344, .inl (fun _ => 0))), (u 1, .inl (K.2 0, 12, .inl (fun _ => 0)))]) := by
  refine cs_v (by decide +kernel) (Nat.le_of_ble_eq_true rfl) ?_
  intro p e s m args below meth c A ls hF hr hk hnm hW hl
  have hx := hF.1
  have hb := hF.2.1
  have hl : lv_has ls 1 [(0, .ref h0)] := hl
  obtain ⟨H, hH⟩ : ∃ z, z = s.heap := ⟨_, rfl⟩
  rw [← hH] at hW ⊢
  refine lv_aload_n hx hb dX7_init_0 rfl (lv_at hl 0 rfl) ?_
  refine w_obj hF ob_X7_3 hl.1 (Nat.le_of_ble_eq_true rfl) (Nat.le_of_ble_eq_true rfl) dX7_init_1 ?_
  refine lv_aload_n hx hb dX7_init_4 rfl (lv_at hl 0 rfl) ?_
  refine lv_sipush (v := 1344) hx hb dX7_init_5 (by decide) ?_
  refine w_newI (N := 1344) hF hW (by decide) (by decide) (by decide) (Nat.le_of_ble_eq_true rfl) (Nat.le_of_ble_eq_true rfl) dX7_init_8 (fun q1 H hW => ?_)
  have hW : Wd K A s (ws ++ [(h0, .inr (7, [.null, .null])), (q1, .inl (K.2 0, 1344, .inl (fun _ => 0)))]) H [] := by rw [List.append_assoc] at hW; exact hW
  refine w_putF (ty := .array .int) hF hnm hW (ap_get _ _ _) rfl iX7 tyX7 tyX7_ok nmX7 0 (by decide) fl_X7_9 rfl rfl (by decide +kernel) rfl rfl (Nat.le_of_ble_eq_true rfl) (ap_set _ _ _ _) dX7_init_10 (fun H locs hW => ?_)
  refine lv_aload_n hx hb dX7_init_13 rfl (lv_at hl 0 rfl) ?_
  refine lv_bipush (v := 12) hx hb dX7_init_14 (by decide) ?_
  refine w_newI (N := 12) hF hW (by decide) (by decide) (by decide) (Nat.le_of_ble_eq_true rfl) (Nat.le_of_ble_eq_true rfl) dX7_init_16 (fun q2 H hW => ?_)
  have hW : Wd K A s (ws ++ [(h0, .inr (7, [.ref q1, .null])), (q1, .inl (K.2 0, 1344, .inl (fun _ => 0))), (q2, .inl (K.2 0, 12, .inl (fun _ => 0)))]) H locs := by rw [List.append_assoc] at hW; exact hW
  refine w_putF (ty := .array .int) hF hnm hW (ap_get _ _ _) rfl iX7 tyX7 tyX7_ok nmX7 1 (by decide) fl_X7_15 rfl rfl (by decide +kernel) rfl rfl (Nat.le_of_ble_eq_true rfl) (ap_set _ _ _ _) dX7_init_18 (fun H locs hW => ?_)
  exact rt_v hF hr hk (fun k => if k = 0 then q1 else q2) hW dX7_init_21
