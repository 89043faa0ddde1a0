/-! the entry of a method of a class that the machine overrides in part; words of arraycopy; contracts of java.util.Arrays.fill -/
theorem met_ofF {l : Launch} {y : MethodName} {ws ws' : List Cond} {rm : Room} {Pc : Array Value → State → Prop} {Qc : Array Value → State → Outcome → State → Prop} {mc ms : Nat} {free : Addr → Prop} {cc : ByteArray} {maxL : Nat} {ret : Option FieldType}
    (hy : plainFor y = true) (hw : ws = Cond.code y cc maxL ret :: ws')
    (body : ∀ p e s m args below meth c s₁, BodyLoose p l y (headSpec ws rm) cc maxL ret e s m args below meth c s₁ → c.maxLocals = maxL → Pc args s →
      W p l e (headSpec ws rm).room s m args below meth c s.heap [] 0 0 (MQ below Qc args s mc ms free) (entryFrame m args maxL)) : Met l y ws rm Pc Qc mc ms free := by
  refine MetFree.of_bodySF (code := cc) (maxLocals := maxL) (ret := ret) hy ?_ ?_
  · intro args s m h hn
    obtain ⟨meth, c, h1, h2, h3, h4, h5, h6, -, -⟩ := Cond.code_spec hn (atoms_spec (ws := ws) h _ (hw ▸ List.mem_cons_self))
    exact ⟨meth, c, h1, h2, h3, h4, h5, h6⟩
  · intro p e s m args below meth c s₁ B hml hP _
    obtain ⟨t, a1, o, b1, b2, b3⟩ := body p e s m args below meth c s₁ B hml hP s₁ (by rw [B.state]; rfl) (Stand.of_body B)
    exact ⟨t, o, a1, b1, b2, b3.1, b3.2⟩
theorem cm_startF {l : Launch} {y : MethodName} {cc : ByteArray} {maxL : Nat} {ret : Option FieldType} {rm : Room} {K : Kx} {argv : List Value} {ws : va_W} {sz : Nat} {Qc : Array Value → State → Outcome → State → Prop}
    (hy : plainFor y = true) (hn : (lg_sl argv).length ≤ maxL)
    (body : ∀ (p : Program) (e : Env) (s : State) (m : MethodId) (args : Array Value) (below : List Frame) (meth : Method) (c : Code) (A : Nat → Prop) (ls : Array Slot), A = va_A ws sz → Fx p s m args c cc maxL y.cls K A → meth.sig.returnType = ret → meth.locks = false → meth.name = y.name → s.heap.size = sz → Wd K A s ws s.heap [] → lv_has ls maxL (lv_args 0 argv) →
      W p l e rm s m args below meth c s.heap [] 0 0 (MQ below Qc args s rm.cells rm.slots A) (F0 m 0 ls [])) :
    Met l y (.code y cc maxL ret :: TT) rm (va_Pc argv (PreW K ws sz)) Qc rm.cells rm.slots (va_A ws sz) := by
  refine met_ofF (cc := cc) (maxL := maxL) (ret := ret) hy rfl ?_
  intro p e s m args below meth c s₁ B hml hv
  obtain ⟨rfl, hsz, hP, hD0, hK⟩ := hv
  have hts0 := atoms_spec (ws := .code y cc maxL ret :: TT) B.pre
  have hown : s.vm.findClass y.cls = some m.cls := findClass_of_methodNamed B.named
  have hD := hD0.self (sz := sz)
  have hA : ∀ q : Nat, s.heap.size ≤ q → va_A ws sz q := fun q h => Or.inr (hsz ▸ h)
  have hS : va_S (va_A ws sz) s.heap s.heap [] := va_S.rf
  have hl := lv_entry argv hn
  rw [lg_entry_eq]
  exact body p e s m _ below meth c _ _ rfl ⟨B.exec, B.bytes, fun w hw => hts0 w (List.mem_cons_of_mem _ hw), hown, hK, hml, hA⟩ B.returns B.notSynchronized (name_of_methodNamed B.named B.method).1 hsz ⟨hP, hD, hS⟩ hl
theorem cs_iF {l : Launch} {y : MethodName} {cc : ByteArray} {maxL : Nat} {rm : Room} {K : Kx} {argv : List Value} {ws : va_W} {ws' : (Nat → Nat) → va_W} {r0 : Int32} {ret : Option FieldType} (hy : plainFor y = true) (hn : (lg_sl argv).length ≤ maxL)
    (body : ∀ (p : Program) (e : Env) (s : State) (m : MethodId) (args : Array Value) (below : List Frame) (meth : Method) (c : Code) (A : Nat → Prop) (ls : Array Slot), Fx p s m args c cc maxL y.cls K A → meth.sig.returnType = ret → meth.locks = false → meth.name = y.name → Wd K A s ws s.heap [] → lv_has ls maxL (lv_args 0 argv) →
      W p l e rm s m args below meth c s.heap [] 0 0 (EndI K A ws' r0 below args s rm) (F0 m 0 ls [])) : CMi l y cc maxL ret rm K argv ws ws' r0 := by
  intro sz
  refine cm_startF hy hn ?_
  intro p e s m args below meth c A ls hA hF hr hk hnm hsz hW hl
  rw [← hA]
  exact body p e s m args below meth c A ls hF hr hk hnm hW hl
theorem cs_lF {l : Launch} {y : MethodName} {cc : ByteArray} {maxL : Nat} {rm : Room} {K : Kx} {argv : List Value} {ws : va_W} {ws' : (Nat → Nat) → va_W} {r0 : Int64} (hy : plainFor y = true) (hn : (lg_sl argv).length ≤ maxL)
    (body : ∀ (p : Program) (e : Env) (s : State) (m : MethodId) (args : Array Value) (below : List Frame) (meth : Method) (c : Code) (A : Nat → Prop) (ls : Array Slot), Fx p s m args c cc maxL y.cls K A → meth.sig.returnType = some .long → meth.locks = false → meth.name = y.name → Wd K A s ws s.heap [] → lv_has ls maxL (lv_args 0 argv) →
      W p l e rm s m args below meth c s.heap [] 0 0 (EndL K A ws' r0 below args s rm) (F0 m 0 ls [])) : CMl l y cc maxL rm K argv ws ws' r0 := by
  intro sz
  refine cm_startF hy hn ?_
  intro p e s m args below meth c A ls hA hF hr hk hnm hsz hW hl
  rw [← hA]
  exact body p e s m args below meth c A ls hF hr hk hnm hW hl
theorem cs_vF {l : Launch} {y : MethodName} {cc : ByteArray} {maxL : Nat} {rm : Room} {K : Kx} {argv : List Value} {ws : va_W} {ws' : (Nat → Nat) → va_W} (hy : plainFor y = true) (hn : (lg_sl argv).length ≤ maxL)
    (body : ∀ (p : Program) (e : Env) (s : State) (m : MethodId) (args : Array Value) (below : List Frame) (meth : Method) (c : Code) (A : Nat → Prop) (ls : Array Slot), Fx p s m args c cc maxL y.cls K A → meth.sig.returnType = none → meth.locks = false → meth.name = y.name → Wd K A s ws s.heap [] → lv_has ls maxL (lv_args 0 argv) →
      W p l e rm s m args below meth c s.heap [] 0 0 (EndV K A ws' below args s rm) (F0 m 0 ls [])) : CMv l y cc maxL rm K argv ws ws' := by
  intro sz
  refine cm_startF hy hn ?_
  intro p e s m args below meth c A ls hA hF hr hk hnm hsz hW hl
  rw [← hA]
  exact body p e s m args below meth c A ls hF hr hk hnm hW hl
theorem ac_n : Cond.native arraycopyName ∈ TT := tt3 37 (by decide +kernel) rfl
theorem ac_s : Cond.static arraycopyName ∈ TT := tt3 36 (by decide +kernel) rfl
theorem ac_i : Cond.initialized "java/lang/System" ∈ TT := tt1 14 (by decide +kernel) rfl
theorem al_X0_97 : Cond.methodLink RX0 97 arraycopyName ∈ TT := tt4 70 (by decide +kernel) rfl
theorem al_X3_95 : Cond.methodLink RX3 95 arraycopyName ∈ TT := tt5 91 (by decide +kernel) rfl
theorem al_X4_28 : Cond.methodLink RX4 28 arraycopyName ∈ TT := tt3 216 (by decide +kernel) rfl
theorem al_X7_18 : Cond.methodLink RX7 18 arraycopyName ∈ TT := tt5 18 (by decide +kernel) rfl
theorem al_X8_25 : Cond.methodLink RX8 25 arraycopyName ∈ TT := tt3 35 (by decide +kernel) rfl
theorem al_X10_120 : Cond.methodLink RX10 120 arraycopyName ∈ TT := tt4 119 (by decide +kernel) rfl
theorem set_at {α : Type} {l : List α} {q : Nat} {x : α} (h : l[q]? = some x) : l.set q x = l := by
  apply List.ext_getElem?
  intro i
  rw [List.getElem?_set]
  by_cases hq : q = i
  · subst hq
    rw [if_pos rfl]
    by_cases hl : q < l.length
    · rw [if_pos hl, h]
    · rw [if_neg hl, List.getElem?_eq_none (Nat.le_of_not_lt hl)]
  · rw [if_neg hq]
theorem set_get {α : Type} {l : List α} {q : Nat} {x y : α} (h : l[q]? = some x) : (l.set q y)[q]? = some y := by
  have hl : q < l.length := by
    rcases Nat.lt_or_ge q l.length with z | z
    · exact z
    · rw [List.getElem?_eq_none z] at h; cases h
  rw [List.getElem?_set, if_pos rfl, if_pos hl]
theorem fl_0 {α : Type} (f : Nat → α) (lo : Nat) (x : α) : fl_ f lo lo x = f := by
  funext j; unfold fl_; rw [if_neg (by omega)]
theorem fl_I (f : Nat → Int32) (lo j : Nat) (x : Int32) (h : lo ≤ j) : upd (fl_ f lo j x) j x = fl_ f lo (j + 1) x := by
  funext i; unfold upd fl_
  by_cases h1 : i = j
  · rw [if_pos h1, if_pos (by omega)]
  · rw [if_neg h1]
    by_cases h2 : lo ≤ i ∧ i < j
    · rw [if_pos h2, if_pos (by omega)]
    · rw [if_neg h2, if_neg (by omega)]
theorem fl_L (f : Nat → Int64) (lo j : Nat) (x : Int64) (h : lo ≤ j) : vp_updL (fl_ f lo j x) j x = fl_ f lo (j + 1) x := by
  funext i; unfold vp_updL fl_
  by_cases h1 : i = j
  · rw [if_pos h1, if_pos (by omega)]
  · rw [if_neg h1]
    by_cases h2 : lo ≤ i ∧ i < j
    · rw [if_pos h2, if_pos (by omega)]
    · rw [if_neg h2, if_neg (by omega)]
theorem c_rangeCheck (l : Launch) (K : Kx) {ws : va_W} {x0 x1 x2 : Int32} (h1 : x1 ≤ x2) (h2 : ¬ x1 < 0) (h3 : x2 ≤ x0) : CMv l yJ7_rangeCheck_23922 cJ7_rangeCheck_23922 3 ({ frames := 0, cells := 0, slots := 0, locals := 0 } : Room) K [.int x0, .int x1, .int x2] ws (fun _ => ws) := by
  refine cs_vF (by decide +kernel) (Nat.le_of_ble_eq_true rfl) ?_
  intro p e s m args below meth c A ls hF hr hk hnm hW hl
  have hx := hF.1
  have hb := hF.2.1
  have hl : lv_has ls 3 [(0, .int x0), (1, .int x1), (2, .int x2)] := hl
  obtain ⟨H, hH⟩ : ∃ z, z = s.heap := ⟨_, rfl⟩
  rw [← hH] at hW ⊢
  refine lv_iload_n hx hb dJ7_rangeCheck_23922_0 rfl (lv_at hl 1 rfl) ?_
  refine lv_iload_n hx hb dJ7_rangeCheck_23922_1 rfl (lv_at hl 2 rfl) ?_
  refine lv_icmp_le (tgt := 46) hx hb dJ7_rangeCheck_23922_2 (by decide) (fun q => ?_) (fun q => absurd h1 q)
  refine lv_iload_n hx hb dJ7_rangeCheck_23922_46 rfl (lv_at hl 1 rfl) ?_
  refine lv_if_ge (tgt := 59) hx hb dJ7_rangeCheck_23922_47 (by decide) (fun q => ?_) (fun q => absurd (Int32.not_lt.mp h2) q)
  refine lv_iload_n hx hb dJ7_rangeCheck_23922_59 rfl (lv_at hl 2 rfl) ?_
  refine lv_iload_n hx hb dJ7_rangeCheck_23922_60 rfl (lv_at hl 0 rfl) ?_
  refine lv_icmp_le (tgt := 73) hx hb dJ7_rangeCheck_23922_61 (by decide) (fun q => ?_) (fun q => absurd h3 q)
  exact rt_v hF hr hk (fun _ => 0) hW dJ7_rangeCheck_23922_73
set_option maxHeartbeats 4000000 in
theorem c_fillI_a (l : Launch) (K : Kx) {ws : va_W} {q0 a n : Nat} {f : Nat → Int32} {x : Int32} (he : ws[q0]? = some (a, .inl (K.2 0, n, .inl f))) (hn : n < 2 ^ 31) : CMv l yJ7_fill_53178 cJ7_fill_53178 4 ({ frames := 0, cells := 0, slots := 0, locals := 0 } : Room) K [.ref a, .int x] ws (fun _ => ws.set q0 (a, .inl (K.2 0, n, .inl (fl_ f 0 n x)))) := by
  refine cs_vF (by decide +kernel) (Nat.le_of_ble_eq_true rfl) ?_
  intro p e s m args below meth c A ls hF hr hk hnm hW hl
  have hx := hF.1
  have hb := hF.2.1
  have hl : lv_has ls 4 [(0, .ref a), (1, .int x)] := hl
  obtain ⟨H, hH⟩ : ∃ z, z = s.heap := ⟨_, rfl⟩
  rw [← hH] at hW ⊢
  have J : ∀ (t j : Nat), j + t = n → ∀ (H : Heap) (locs : List Loc) (ls : Array Slot), Wd K A s (ws.set q0 (a, .inl (K.2 0, n, .inl (fl_ f 0 j x)))) H locs → lv_has ls 4 [(0, .ref a), (1, .int x), (2, .int (nI j)), (3, .int (nI n))] → W p l e ({ frames := 0, cells := 0, slots := 0, locals := 0 } : Room) s m args below meth c H locs 0 0 (EndV K A (fun _ => ws.set q0 (a, .inl (K.2 0, n, .inl (fl_ f 0 n x)))) below args s ({ frames := 0, cells := 0, slots := 0, locals := 0 } : Room)) (F0 m 5 ls []) := by
    intro t
    induction t with
    | zero =>
      intro j hj H locs ls hW hl
      have hj : j = n := by omega
      subst hj
      refine lv_iload_n hx hb dJ7_fill_53178_5 rfl (lv_at hl 2 rfl) ?_
      refine lv_iload_n hx hb dJ7_fill_53178_6 rfl (lv_at hl 3 rfl) ?_
      refine lv_icmp_ge (tgt := 20) hx hb dJ7_fill_53178_7 (by decide) (fun q => ?_) (fun q => absurd (nI_le (Nat.le_refl _) hn) q)
      exact rt_v hF hr hk (fun _ => 0) hW dJ7_fill_53178_20
    | succ t ih =>
      intro j hj H locs ls hW hl
      have hjn : j < n := by omega
      refine lv_iload_n hx hb dJ7_fill_53178_5 rfl (lv_at hl 2 rfl) ?_
      refine lv_iload_n hx hb dJ7_fill_53178_6 rfl (lv_at hl 3 rfl) ?_
      refine lv_icmp_ge (tgt := 20) hx hb dJ7_fill_53178_7 (by decide) (fun q => absurd q (nI_ge hjn hn)) (fun q => ?_)
      refine lv_aload_n hx hb dJ7_fill_53178_10 rfl (lv_at hl 0 rfl) ?_
      refine lv_iload_n hx hb dJ7_fill_53178_11 rfl (lv_at hl 2 rfl) ?_
      refine lv_iload_n hx hb dJ7_fill_53178_12 rfl (lv_at hl 1 rfl) ?_
      refine w_ist hF hW (set_get he) (vp_in_nI hjn hn) rfl dJ7_fill_53178_13 (fun H locs hW => ?_)
      rw [List.set_set, nI_clamp (Nat.lt_trans hjn hn), fl_I f 0 j x (Nat.zero_le j)] at hW
      refine lv_iinc (v := nI (j + 1)) (lv' := [(2, .int (nI (j + 1))), (0, .ref a), (1, .int x), (3, .int (nI n))]) hx hb dJ7_fill_53178_14 hl (k := 2) rfl (nI_1 j) (by decide) rfl (fun ls hl => ?_)
      refine lv_goto (tgt := 5) hx hb dJ7_fill_53178_17 (by decide) ?_
      exact ih (j + 1) (by omega) _ _ _ hW (lv_sub hl [1, 2, 0, 3] rfl)
  refine lv_iconst (v := 0) hx hb dJ7_fill_53178_0 (by decide) ?_
  refine lv_istore_n (lv' := [(2, .int 0), (0, .ref a), (1, .int x)]) hx hb dJ7_fill_53178_1 rfl hl (by decide) rfl (fun ls hl => ?_)
  refine lv_aload_n hx hb dJ7_fill_53178_2 rfl (lv_at hl 1 rfl) ?_
  refine va_alen hx hb hF.2.2.2.2.1.1 hW.1 q0 0 he rfl (v := nI n) rfl dJ7_fill_53178_3 ?_
  refine lv_istore_n (lv' := [(3, .int (nI n)), (2, .int 0), (0, .ref a), (1, .int x)]) hx hb dJ7_fill_53178_4 rfl hl (by decide) rfl (fun ls hl => ?_)
  exact J n 0 (by omega) _ _ _ (by rw [fl_0, set_at he]; exact hW) (lv_sub hl [2, 3, 1, 0] rfl)
set_option maxHeartbeats 4000000 in
theorem c_fillJ_a (l : Launch) (K : Kx) {ws : va_W} {q0 a n : Nat} {f : Nat → Int64} {x : Int64} (he : ws[q0]? = some (a, .inl (K.2 1, n, .inr (.inl f)))) (hn : n < 2 ^ 31) : CMv l yJ7_fill_d0a16 cJ7_fill_d0a16 5 ({ frames := 0, cells := 0, slots := 0, locals := 0 } : Room) K [.ref a, .long x] ws (fun _ => ws.set q0 (a, .inl (K.2 1, n, .inr (.inl (fl_ f 0 n x))))) := by
  refine cs_vF (by decide +kernel) (Nat.le_of_ble_eq_true rfl) ?_
  intro p e s m args below meth c A ls hF hr hk hnm hW hl
  have hx := hF.1
  have hb := hF.2.1
  have hl : lv_has ls 5 [(0, .ref a), (1, .long x)] := hl
  obtain ⟨H, hH⟩ : ∃ z, z = s.heap := ⟨_, rfl⟩
  rw [← hH] at hW ⊢
  have J : ∀ (t j : Nat), j + t = n → ∀ (H : Heap) (locs : List Loc) (ls : Array Slot), Wd K A s (ws.set q0 (a, .inl (K.2 1, n, .inr (.inl (fl_ f 0 j x))))) H locs → lv_has ls 5 [(0, .ref a), (1, .long x), (3, .int (nI j)), (4, .int (nI n))] → W p l e ({ frames := 0, cells := 0, slots := 0, locals := 0 } : Room) s m args below meth c H locs 0 0 (EndV K A (fun _ => ws.set q0 (a, .inl (K.2 1, n, .inr (.inl (fl_ f 0 n x))))) below args s ({ frames := 0, cells := 0, slots := 0, locals := 0 } : Room)) (F0 m 6 ls []) := by
    intro t
    induction t with
    | zero =>
      intro j hj H locs ls hW hl
      have hj : j = n := by omega
      subst hj
      refine lv_iload_n hx hb dJ7_fill_d0a16_6 rfl (lv_at hl 2 rfl) ?_
      refine lv_iload hx hb dJ7_fill_d0a16_7 (lv_at hl 3 rfl) ?_
      refine lv_icmp_ge (tgt := 22) hx hb dJ7_fill_d0a16_9 (by decide) (fun q => ?_) (fun q => absurd (nI_le (Nat.le_refl _) hn) q)
      exact rt_v hF hr hk (fun _ => 0) hW dJ7_fill_d0a16_22
    | succ t ih =>
      intro j hj H locs ls hW hl
      have hjn : j < n := by omega
      refine lv_iload_n hx hb dJ7_fill_d0a16_6 rfl (lv_at hl 2 rfl) ?_
      refine lv_iload hx hb dJ7_fill_d0a16_7 (lv_at hl 3 rfl) ?_
      refine lv_icmp_ge (tgt := 22) hx hb dJ7_fill_d0a16_9 (by decide) (fun q => absurd q (nI_ge hjn hn)) (fun q => ?_)
      refine lv_aload_n hx hb dJ7_fill_d0a16_12 rfl (lv_at hl 0 rfl) ?_
      refine lv_iload_n hx hb dJ7_fill_d0a16_13 rfl (lv_at hl 2 rfl) ?_
      refine lv_lload_n hx hb dJ7_fill_d0a16_14 rfl (lv_at hl 1 rfl) ?_
      refine w_lst hF hW (set_get he) (vp_in_nI hjn hn) rfl dJ7_fill_d0a16_15 (fun H locs hW => ?_)
      rw [List.set_set, nI_clamp (Nat.lt_trans hjn hn), fl_L f 0 j x (Nat.zero_le j)] at hW
      refine lv_iinc (v := nI (j + 1)) (lv' := [(3, .int (nI (j + 1))), (0, .ref a), (1, .long x), (4, .int (nI n))]) hx hb dJ7_fill_d0a16_16 hl (k := 2) rfl (nI_1 j) (by decide) rfl (fun ls hl => ?_)
      refine lv_goto (tgt := 6) hx hb dJ7_fill_d0a16_19 (by decide) ?_
      exact ih (j + 1) (by omega) _ _ _ hW (lv_sub hl [1, 2, 0, 3] rfl)
  refine lv_iconst (v := 0) hx hb dJ7_fill_d0a16_0 (by decide) ?_
  refine lv_istore_n (lv' := [(3, .int 0), (0, .ref a), (1, .long x)]) hx hb dJ7_fill_d0a16_1 rfl hl (by decide) rfl (fun ls hl => ?_)
  refine lv_aload_n hx hb dJ7_fill_d0a16_2 rfl (lv_at hl 1 rfl) ?_
  refine va_alen hx hb hF.2.2.2.2.1.1 hW.1 q0 1 he rfl (v := nI n) rfl dJ7_fill_d0a16_3 ?_
  refine lv_istore (lv' := [(4, .int (nI n)), (3, .int 0), (0, .ref a), (1, .long x)]) hx hb dJ7_fill_d0a16_4 hl (by decide) rfl (fun ls hl => ?_)
  exact J n 0 (by omega) _ _ _ (by rw [fl_0, set_at he]; exact hW) (lv_sub hl [2, 3, 1, 0] rfl)
set_option maxHeartbeats 4000000 in
theorem c_fillI_r (l : Launch) (K : Kx) {ws : va_W} {q0 a n : Nat} {f : Nat → Int32} {x : Int32} {lo hi : Int32} (he : ws[q0]? = some (a, .inl (K.2 0, n, .inl f))) (hc : ¬ lo < 0 ∧ lo ≤ hi ∧ hi.toNatClampNeg ≤ n) (hn : n < 2 ^ 31) : CMv l yJ7_fill_fda19 cJ7_fill_fda19 5 ({ frames := 1, cells := 0, slots := 0, locals := 40 } : Room) K [.ref a, .int lo, .int hi, .int x] ws (fun _ => ws.set q0 (a, .inl (K.2 0, n, .inl (fl_ f (lo.toNatClampNeg) (hi.toNatClampNeg) x)))) := by
  obtain ⟨h1, h2, h3⟩ := hc
  obtain ⟨b0, hb0, rfl⟩ := nI_of h1
  obtain ⟨b1, hb1, rfl⟩ := nI_of (x := hi) (fun z => h1 (Int32.lt_of_le_of_lt h2 z))
  rw [nI_clamp hb1] at h3 ⊢
  rw [nI_clamp hb0]
  have h01 : b0 ≤ b1 := (nI_leI hb0 hb1).mp h2
  refine cs_vF (by decide +kernel) (Nat.le_of_ble_eq_true rfl) ?_
  intro p e s m args below meth c A ls hF hr hk hnm hW hl
  have hx := hF.1
  have hb := hF.2.1
  have hl : lv_has ls 5 [(0, .ref a), (1, .int (nI b0)), (2, .int (nI b1)), (3, .int x)] := hl
  obtain ⟨H, hH⟩ : ∃ z, z = s.heap := ⟨_, rfl⟩
  rw [← hH] at hW ⊢
  have J : ∀ (t j : Nat), j + t = b1 → b0 ≤ j → ∀ (H : Heap) (locs : List Loc) (ls : Array Slot), Wd K A s (ws.set q0 (a, .inl (K.2 0, n, .inl (fl_ f b0 j x)))) H locs → lv_has ls 5 [(0, .ref a), (1, .int (nI b0)), (2, .int (nI b1)), (3, .int x), (4, .int (nI j))] → W p l e ({ frames := 1, cells := 0, slots := 0, locals := 40 } : Room) s m args below meth c H locs 0 0 (EndV K A (fun _ => ws.set q0 (a, .inl (K.2 0, n, .inl (fl_ f b0 b1 x)))) below args s ({ frames := 1, cells := 0, slots := 0, locals := 40 } : Room)) (F0 m 10 ls []) := by
    intro t
    induction t with
    | zero =>
      intro j hj hj0 H locs ls hW hl
      have hj : j = b1 := by omega
      subst hj
      refine lv_iload hx hb dJ7_fill_fda19_10 (lv_at hl 4 rfl) ?_
      refine lv_iload_n hx hb dJ7_fill_fda19_12 rfl (lv_at hl 2 rfl) ?_
      refine lv_icmp_ge (tgt := 27) hx hb dJ7_fill_fda19_13 (by decide) (fun q => ?_) (fun q => absurd (nI_le (Nat.le_refl _) hb1) q)
      exact rt_v hF hr hk (fun _ => 0) hW dJ7_fill_fda19_27
    | succ t ih =>
      intro j hj hj0 H locs ls hW hl
      have hjn : j < b1 := by omega
      refine lv_iload hx hb dJ7_fill_fda19_10 (lv_at hl 4 rfl) ?_
      refine lv_iload_n hx hb dJ7_fill_fda19_12 rfl (lv_at hl 2 rfl) ?_
      refine lv_icmp_ge (tgt := 27) hx hb dJ7_fill_fda19_13 (by decide) (fun q => absurd q (nI_ge hjn hb1)) (fun q => ?_)
      refine lv_aload_n hx hb dJ7_fill_fda19_16 rfl (lv_at hl 0 rfl) ?_
      refine lv_iload hx hb dJ7_fill_fda19_17 (lv_at hl 4 rfl) ?_
      refine lv_iload_n hx hb dJ7_fill_fda19_19 rfl (lv_at hl 3 rfl) ?_
      refine w_ist hF hW (set_get he) (vp_in_nI (Nat.lt_of_lt_of_le hjn h3) hn) rfl dJ7_fill_fda19_20 (fun H locs hW => ?_)
      rw [List.set_set, nI_clamp (Nat.lt_trans hjn hb1), fl_I f b0 j x hj0] at hW
      refine lv_iinc (v := nI (j + 1)) (lv' := [(4, .int (nI (j + 1))), (0, .ref a), (1, .int (nI b0)), (2, .int (nI b1)), (3, .int x)]) hx hb dJ7_fill_fda19_21 hl (k := 4) rfl (nI_1 j) (by decide) rfl (fun ls hl => ?_)
      refine lv_goto (tgt := 10) hx hb dJ7_fill_fda19_24 (by decide) ?_
      exact ih (j + 1) (by omega) (by omega) _ _ _ hW (lv_sub hl [1, 2, 3, 4, 0] rfl)
  refine lv_aload_n hx hb dJ7_fill_fda19_0 rfl (lv_at hl 0 rfl) ?_
  refine va_alen hx hb hF.2.2.2.2.1.1 hW.1 q0 0 he rfl (v := nI n) rfl dJ7_fill_fda19_1 ?_
  refine lv_iload_n hx hb dJ7_fill_fda19_2 rfl (lv_at hl 1 rfl) ?_
  refine lv_iload_n hx hb dJ7_fill_fda19_3 rfl (lv_at hl 2 rfl) ?_
  refine cS_v (rest := []) hF hW mw_J7_13 (c_rangeCheck l K h2 h1 (nI_le h3 hn)) ⟨Nat.le_of_ble_eq_true rfl, Nat.le_of_ble_eq_true rfl⟩ rfl hl.1 rfl (Nat.le_of_ble_eq_true rfl) dJ7_fill_fda19_4 ⟨Nat.le_of_ble_eq_true rfl, Nat.le_of_ble_eq_true rfl⟩ (fun _ H locs hW => ?_)
  refine lv_iload_n hx hb dJ7_fill_fda19_7 rfl (lv_at hl 1 rfl) ?_
  refine lv_istore (lv' := [(4, .int (nI b0)), (0, .ref a), (1, .int (nI b0)), (2, .int (nI b1)), (3, .int x)]) hx hb dJ7_fill_fda19_8 hl (by decide) rfl (fun ls hl => ?_)
  exact J (b1 - b0) b0 (by omega) (Nat.le_refl _) _ _ _ (by rw [fl_0, set_at he]; exact hW) (lv_sub hl [1, 2, 3, 4, 0] rfl)
set_option maxHeartbeats 4000000 in
theorem c_fillJ_r (l : Launch) (K : Kx) {ws : va_W} {q0 a n : Nat} {f : Nat → Int64} {x : Int64} {lo hi : Int32} (he : ws[q0]? = some (a, .inl (K.2 1, n, .inr (.inl f)))) (hc : ¬ lo < 0 ∧ lo ≤ hi ∧ hi.toNatClampNeg ≤ n) (hn : n < 2 ^ 31) : CMv l yJ7_fill_bad5a cJ7_fill_bad5a 6 ({ frames := 1, cells := 0, slots := 0, locals := 40 } : Room) K [.ref a, .int lo, .int hi, .long x] ws (fun _ => ws.set q0 (a, .inl (K.2 1, n, .inr (.inl (fl_ f (lo.toNatClampNeg) (hi.toNatClampNeg) x))))) := by
  obtain ⟨h1, h2, h3⟩ := hc
  obtain ⟨b0, hb0, rfl⟩ := nI_of h1
  obtain ⟨b1, hb1, rfl⟩ := nI_of (x := hi) (fun z => h1 (Int32.lt_of_le_of_lt h2 z))
  rw [nI_clamp hb1] at h3 ⊢
  rw [nI_clamp hb0]
  have h01 : b0 ≤ b1 := (nI_leI hb0 hb1).mp h2
  refine cs_vF (by decide +kernel) (Nat.le_of_ble_eq_true rfl) ?_
  intro p e s m args below meth c A ls hF hr hk hnm hW hl
  have hx := hF.1
  have hb := hF.2.1
  have hl : lv_has ls 6 [(0, .ref a), (1, .int (nI b0)), (2, .int (nI b1)), (3, .long x)] := hl
  obtain ⟨H, hH⟩ : ∃ z, z = s.heap := ⟨_, rfl⟩
  rw [← hH] at hW ⊢
  have J : ∀ (t j : Nat), j + t = b1 → b0 ≤ j → ∀ (H : Heap) (locs : List Loc) (ls : Array Slot), Wd K A s (ws.set q0 (a, .inl (K.2 1, n, .inr (.inl (fl_ f b0 j x))))) H locs → lv_has ls 6 [(0, .ref a), (1, .int (nI b0)), (2, .int (nI b1)), (3, .long x), (5, .int (nI j))] → W p l e ({ frames := 1, cells := 0, slots := 0, locals := 40 } : Room) s m args below meth c H locs 0 0 (EndV K A (fun _ => ws.set q0 (a, .inl (K.2 1, n, .inr (.inl (fl_ f b0 b1 x))))) below args s ({ frames := 1, cells := 0, slots := 0, locals := 40 } : Room)) (F0 m 10 ls []) := by
    intro t
    induction t with
    | zero =>
      intro j hj hj0 H locs ls hW hl
      have hj : j = b1 := by omega
      subst hj
      refine lv_iload hx hb dJ7_fill_bad5a_10 (lv_at hl 4 rfl) ?_
      refine lv_iload_n hx hb dJ7_fill_bad5a_12 rfl (lv_at hl 2 rfl) ?_
      refine lv_icmp_ge (tgt := 27) hx hb dJ7_fill_bad5a_13 (by decide) (fun q => ?_) (fun q => absurd (nI_le (Nat.le_refl _) hb1) q)
      exact rt_v hF hr hk (fun _ => 0) hW dJ7_fill_bad5a_27
    | succ t ih =>
      intro j hj hj0 H locs ls hW hl
      have hjn : j < b1 := by omega
      refine lv_iload hx hb dJ7_fill_bad5a_10 (lv_at hl 4 rfl) ?_
      refine lv_iload_n hx hb dJ7_fill_bad5a_12 rfl (lv_at hl 2 rfl) ?_
      refine lv_icmp_ge (tgt := 27) hx hb dJ7_fill_bad5a_13 (by decide) (fun q => absurd q (nI_ge hjn hb1)) (fun q => ?_)
      refine lv_aload_n hx hb dJ7_fill_bad5a_16 rfl (lv_at hl 0 rfl) ?_
      refine lv_iload hx hb dJ7_fill_bad5a_17 (lv_at hl 4 rfl) ?_
      refine lv_lload_n hx hb dJ7_fill_bad5a_19 rfl (lv_at hl 3 rfl) ?_
      refine w_lst hF hW (set_get he) (vp_in_nI (Nat.lt_of_lt_of_le hjn h3) hn) rfl dJ7_fill_bad5a_20 (fun H locs hW => ?_)
      rw [List.set_set, nI_clamp (Nat.lt_trans hjn hb1), fl_L f b0 j x hj0] at hW
      refine lv_iinc (v := nI (j + 1)) (lv' := [(5, .int (nI (j + 1))), (0, .ref a), (1, .int (nI b0)), (2, .int (nI b1)), (3, .long x)]) hx hb dJ7_fill_bad5a_21 hl (k := 4) rfl (nI_1 j) (by decide) rfl (fun ls hl => ?_)
      refine lv_goto (tgt := 10) hx hb dJ7_fill_bad5a_24 (by decide) ?_
      exact ih (j + 1) (by omega) (by omega) _ _ _ hW (lv_sub hl [1, 2, 3, 4, 0] rfl)
  refine lv_aload_n hx hb dJ7_fill_bad5a_0 rfl (lv_at hl 0 rfl) ?_
  refine va_alen hx hb hF.2.2.2.2.1.1 hW.1 q0 1 he rfl (v := nI n) rfl dJ7_fill_bad5a_1 ?_
  refine lv_iload_n hx hb dJ7_fill_bad5a_2 rfl (lv_at hl 1 rfl) ?_
  refine lv_iload_n hx hb dJ7_fill_bad5a_3 rfl (lv_at hl 2 rfl) ?_
  refine cS_v (rest := []) hF hW mw_J7_13 (c_rangeCheck l K h2 h1 (nI_le h3 hn)) ⟨Nat.le_of_ble_eq_true rfl, Nat.le_of_ble_eq_true rfl⟩ rfl hl.1 rfl (Nat.le_of_ble_eq_true rfl) dJ7_fill_bad5a_4 ⟨Nat.le_of_ble_eq_true rfl, Nat.le_of_ble_eq_true rfl⟩ (fun _ H locs hW => ?_)
  refine lv_iload_n hx hb dJ7_fill_bad5a_7 rfl (lv_at hl 1 rfl) ?_
  refine lv_istore (lv' := [(5, .int (nI b0)), (0, .ref a), (1, .int (nI b0)), (2, .int (nI b1)), (3, .long x)]) hx hb dJ7_fill_bad5a_8 hl (by decide) rfl (fun ls hl => ?_)
  exact J (b1 - b0) b0 (by omega) (Nat.le_refl _) _ _ _ (by rw [fl_0, set_at he]; exact hW) (lv_sub hl [1, 2, 3, 4, 0] rfl)
set_option maxHeartbeats 4000000 in
theorem c_fillB_r (l : Launch) (K : Kx) {ws : va_W} {q0 a n : Nat} {f : Nat → Int32} {x : Int32} {lo hi : Int32} (he : ws[q0]? = some (a, .inl (K.2 2, n, .inl f))) (hc : ¬ lo < 0 ∧ lo ≤ hi ∧ hi.toNatClampNeg ≤ n) (hn : n < 2 ^ 31) : CMv l yJ7_fill_eb02e cJ7_fill_eb02e 5 ({ frames := 1, cells := 0, slots := 0, locals := 40 } : Room) K [.ref a, .int lo, .int hi, .int x] ws (fun _ => ws.set q0 (a, .inl (K.2 2, n, .inl (fl_ f (lo.toNatClampNeg) (hi.toNatClampNeg) (vp_nar .byte x))))) := by
  obtain ⟨h1, h2, h3⟩ := hc
  obtain ⟨b0, hb0, rfl⟩ := nI_of h1
  obtain ⟨b1, hb1, rfl⟩ := nI_of (x := hi) (fun z => h1 (Int32.lt_of_le_of_lt h2 z))
  rw [nI_clamp hb1] at h3 ⊢
  rw [nI_clamp hb0]
  have h01 : b0 ≤ b1 := (nI_leI hb0 hb1).mp h2
  refine cs_vF (by decide +kernel) (Nat.le_of_ble_eq_true rfl) ?_
  intro p e s m args below meth c A ls hF hr hk hnm hW hl
  have hx := hF.1
  have hb := hF.2.1
  have hl : lv_has ls 5 [(0, .ref a), (1, .int (nI b0)), (2, .int (nI b1)), (3, .int x)] := hl
  obtain ⟨H, hH⟩ : ∃ z, z = s.heap := ⟨_, rfl⟩
  rw [← hH] at hW ⊢
  have J : ∀ (t j : Nat), j + t = b1 → b0 ≤ j → ∀ (H : Heap) (locs : List Loc) (ls : Array Slot), Wd K A s (ws.set q0 (a, .inl (K.2 2, n, .inl (fl_ f b0 j (vp_nar .byte x))))) H locs → lv_has ls 5 [(0, .ref a), (1, .int (nI b0)), (2, .int (nI b1)), (3, .int x), (4, .int (nI j))] → W p l e ({ frames := 1, cells := 0, slots := 0, locals := 40 } : Room) s m args below meth c H locs 0 0 (EndV K A (fun _ => ws.set q0 (a, .inl (K.2 2, n, .inl (fl_ f b0 b1 (vp_nar .byte x))))) below args s ({ frames := 1, cells := 0, slots := 0, locals := 40 } : Room)) (F0 m 10 ls []) := by
    intro t
    induction t with
    | zero =>
      intro j hj hj0 H locs ls hW hl
      have hj : j = b1 := by omega
      subst hj
      refine lv_iload hx hb dJ7_fill_eb02e_10 (lv_at hl 4 rfl) ?_
      refine lv_iload_n hx hb dJ7_fill_eb02e_12 rfl (lv_at hl 2 rfl) ?_
      refine lv_icmp_ge (tgt := 27) hx hb dJ7_fill_eb02e_13 (by decide) (fun q => ?_) (fun q => absurd (nI_le (Nat.le_refl _) hb1) q)
      exact rt_v hF hr hk (fun _ => 0) hW dJ7_fill_eb02e_27
    | succ t ih =>
      intro j hj hj0 H locs ls hW hl
      have hjn : j < b1 := by omega
      refine lv_iload hx hb dJ7_fill_eb02e_10 (lv_at hl 4 rfl) ?_
      refine lv_iload_n hx hb dJ7_fill_eb02e_12 rfl (lv_at hl 2 rfl) ?_
      refine lv_icmp_ge (tgt := 27) hx hb dJ7_fill_eb02e_13 (by decide) (fun q => absurd q (nI_ge hjn hb1)) (fun q => ?_)
      refine lv_aload_n hx hb dJ7_fill_eb02e_16 rfl (lv_at hl 0 rfl) ?_
      refine lv_iload hx hb dJ7_fill_eb02e_17 (lv_at hl 4 rfl) ?_
      refine lv_iload_n hx hb dJ7_fill_eb02e_19 rfl (lv_at hl 3 rfl) ?_
      refine w_bst hF hW (set_get he) (vp_in_nI (Nat.lt_of_lt_of_le hjn h3) hn) rfl dJ7_fill_eb02e_20 (fun H locs hW => ?_)
      rw [List.set_set, nI_clamp (Nat.lt_trans hjn hb1), fl_I f b0 j (vp_nar .byte x) hj0] at hW
      refine lv_iinc (v := nI (j + 1)) (lv' := [(4, .int (nI (j + 1))), (0, .ref a), (1, .int (nI b0)), (2, .int (nI b1)), (3, .int x)]) hx hb dJ7_fill_eb02e_21 hl (k := 4) rfl (nI_1 j) (by decide) rfl (fun ls hl => ?_)
      refine lv_goto (tgt := 10) hx hb dJ7_fill_eb02e_24 (by decide) ?_
      exact ih (j + 1) (by omega) (by omega) _ _ _ hW (lv_sub hl [1, 2, 3, 4, 0] rfl)
  refine lv_aload_n hx hb dJ7_fill_eb02e_0 rfl (lv_at hl 0 rfl) ?_
  refine va_alen hx hb hF.2.2.2.2.1.1 hW.1 q0 2 he rfl (v := nI n) rfl dJ7_fill_eb02e_1 ?_
  refine lv_iload_n hx hb dJ7_fill_eb02e_2 rfl (lv_at hl 1 rfl) ?_
  refine lv_iload_n hx hb dJ7_fill_eb02e_3 rfl (lv_at hl 2 rfl) ?_
  refine cS_v (rest := []) hF hW mw_J7_13 (c_rangeCheck l K h2 h1 (nI_le h3 hn)) ⟨Nat.le_of_ble_eq_true rfl, Nat.le_of_ble_eq_true rfl⟩ rfl hl.1 rfl (Nat.le_of_ble_eq_true rfl) dJ7_fill_eb02e_4 ⟨Nat.le_of_ble_eq_true rfl, Nat.le_of_ble_eq_true rfl⟩ (fun _ H locs hW => ?_)
  refine lv_iload_n hx hb dJ7_fill_eb02e_7 rfl (lv_at hl 1 rfl) ?_
  refine lv_istore (lv' := [(4, .int (nI b0)), (0, .ref a), (1, .int (nI b0)), (2, .int (nI b1)), (3, .int x)]) hx hb dJ7_fill_eb02e_8 hl (by decide) rfl (fun ls hl => ?_)
  exact J (b1 - b0) b0 (by omega) (Nat.le_refl _) _ _ _ (by rw [fl_0, set_at he]; exact hW) (lv_sub hl [1, 2, 3, 4, 0] rfl)
