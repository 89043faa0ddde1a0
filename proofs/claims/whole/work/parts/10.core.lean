/-! the tables' words that hold over calls; contracts over a world; rows of walks -/
def TT : List Cond := lw_tbl.filter goodWord
theorem tt_i {w : Cond} (i : Nat) (h : tables_1[i]? = some w) (g : goodWord w = true) : w ∈ TT := List.mem_filter.mpr ⟨List.mem_append_right _ (List.mem_of_getElem? h), g⟩
theorem tt_s {w : Cond} (i : Nat) (h : (k2_sels lw_privs)[i]? = some w) (g : goodWord w = true) : w ∈ TT := List.mem_filter.mpr ⟨List.mem_append_left _ (List.mem_of_getElem? h), g⟩
theorem tt_good {w : Cond} (h : w ∈ TT) : goodWord w = true := (List.mem_filter.mp h).2
theorem good_M {w1 : Cond} (h : w1 ∈ TT) : GoodIn TT (w1 :: TT) := by
  intro w hw
  rcases List.mem_cons.mp hw with rfl | hw
  · exact ⟨h, good_of_word (tt_good h)⟩
  · exact ⟨hw, good_of_word (tt_good hw)⟩
theorem good_V {own C : String} {idx : Nat} {y : MethodName} {w1 : Cond} (h1 : Cond.methodLink own idx y ∈ TT) (h2 : Cond.instanceMethod y ∈ TT) (h3 : Cond.selects C y y ∈ TT) (h4 : Cond.initialized C ∈ TT) (h : w1 ∈ TT) : GoodIn TT (wsV own idx C y (w1 :: TT)) := by
  have q : ∀ w ∈ TT, w ∈ TT ∧ ((w.onTables && w.keeps) = true ∨ ∃ ty, w = .arrayClass ty) := fun w hw => ⟨hw, good_of_word (tt_good hw)⟩
  intro w hw
  simp only [wsV, List.cons_append, List.nil_append, List.mem_cons] at hw
  rcases hw with rfl | rfl | rfl | rfl | rfl | hw
  · exact q _ h1
  · exact q _ h2
  · exact q _ h3
  · exact q _ h4
  · exact q _ h
  · exact q _ hw
def bI (b : Bool) : Int32 := if b then 1 else 0
theorem bI_n (b : Bool) : narrow .boolean (.int (bI b)) = .int (bI b) := by cases b <;> decide +kernel
abbrev Kx : Type := va_G × (Nat → ClassId)
abbrev tysK (K : Kx) : List (ClassId × FieldType) := [(K.2 0, .int), (K.2 1, .long), (K.2 2, .byte), (K.2 3, .object "LoopLoom$Rack"), (K.2 4, .object "LoopLoom$Sheet")]
def nestW : List Cond := [.methodLinkNest "LoopLoom" 9 ⟨"LoopLoom$Sums", "<init>", "()V"⟩ "LoopLoom", .methodLinkNest "LoopLoom" 25 ⟨"LoopLoom$Pockets", "<init>", "()V"⟩ "LoopLoom", .methodLinkNest "LoopLoom$Orders" 11 ⟨"LoopLoom$Sheet", "<init>", "()V"⟩ "LoopLoom", .methodLinkNest "LoopLoom" 87 ⟨"LoopLoom$Room", "<init>", "()V"⟩ "LoopLoom", .methodLinkNest "LoopLoom$Orders" 83 ⟨"LoopLoom", "rowNumberFits", "(I)Z"⟩ "LoopLoom"]
def KF (K : Kx) (U : State) : Prop := va_K K.1 vwCl (tysK K) U ∧ (∀ w ∈ nestW, va_Nw w U) ∧ va_AO "LoopLoom$Rack" U ∧ va_AO "LoopLoom$Sheet" U
theorem KF.moved {K : Kx} {s U : State} (hW : s.WarmedH U.vm) (h : KF K s) : KF K U := by
  refine ⟨va_K.moved hW.alike h.1, fun w hw => ?_, va_AO.moved hW.alike h.2.2.1, va_AO.moved hW.alike h.2.2.2⟩
  have hz := h.2.1 w hw
  simp only [nestW, List.mem_cons, List.not_mem_nil, or_false] at hw
  rcases hw with rfl | rfl | rfl | rfl | rfl <;> exact va_Nw.warmM hW hz
theorem KF.calling {K : Kx} {U : State} (g : JFrame) (mk : MethodId) (a : Array Value) (h : KF K U) : KF K (U.calling g mk a) := by
  refine ⟨va_K.moved (u := U) (U := U.calling g mk a) (Vm.Alike.refl U.vm) h.1, fun w hw => ?_, va_AO.moved (u := U) (U := U.calling g mk a) (Vm.Alike.refl U.vm) h.2.2.1, va_AO.moved (u := U) (U := U.calling g mk a) (Vm.Alike.refl U.vm) h.2.2.2⟩
  have hz := h.2.1 w hw
  simp only [nestW, List.mem_cons, List.not_mem_nil, or_false] at hw
  rcases hw with rfl | rfl | rfl | rfl | rfl <;> exact va_Nw.same rfl rfl hz
def PreW (K : Kx) (ws : va_W) (sz : Nat) (U : State) : Prop := U.heap.size = sz ∧ va_P K.1 vwCl ws U.heap ∧ va_D (fun _ => True) ws ∧ KF K U
def PostW (K : Kx) (A : Nat → Prop) (ws' : va_W) (t : State) : Prop := va_P K.1 vwCl ws' t.heap ∧ va_D A ws'
/-- what stays the same in a walk -/
def Fx (p : Program) (s : State) (m : MethodId) (args : Array Value) (c : Code) (cc : ByteArray) (nL : Nat) (own : String) (K : Kx) (A : Nat → Prop) : Prop :=
  p.tables.exec = Jvm.exec ∧ c.code = cc ∧ (∀ w ∈ TT, w.before args s = true) ∧ s.vm.findClass own = some m.cls ∧ KF K s ∧ c.maxLocals = nL ∧ (∀ q, s.heap.size ≤ q → A q)
/-- the world at a point of a walk -/
def Wd (K : Kx) (A : Nat → Prop) (s : State) (ws : va_W) (H : Heap) (locs : List Loc) : Prop := va_P K.1 vwCl ws H ∧ va_D A ws ∧ va_S A s.heap H locs
/-- contracts: from the world ws, at arguments argv: the answer r0, the world ws' u -/
def CMi (l : Launch) (y : MethodName) (cc : ByteArray) (maxL : Nat) (ret : Option FieldType) (rm : Room) (K : Kx) (argv : List Value) (ws : va_W) (ws' : (Nat → Nat) → va_W) (r0 : Int32) : Prop :=
  ∀ sz : Nat, Met l y (.code y cc maxL ret :: TT) rm (va_Pc argv (PreW K ws sz)) (va_Qi (fun r (_ : Nat → Nat) => r = r0) (fun u t => PostW K (va_A ws sz) (ws' u) t) (va_A ws sz)) rm.cells rm.slots (va_A ws sz)
def CMl (l : Launch) (y : MethodName) (cc : ByteArray) (maxL : Nat) (rm : Room) (K : Kx) (argv : List Value) (ws : va_W) (ws' : (Nat → Nat) → va_W) (r0 : Int64) : Prop :=
  ∀ sz : Nat, Met l y (.code y cc maxL (some .long) :: TT) rm (va_Pc argv (PreW K ws sz)) (va_Ql (fun r (_ : Nat → Nat) => r = r0) (fun u t => PostW K (va_A ws sz) (ws' u) t) (va_A ws sz)) rm.cells rm.slots (va_A ws sz)
def CMv (l : Launch) (y : MethodName) (cc : ByteArray) (maxL : Nat) (rm : Room) (K : Kx) (argv : List Value) (ws : va_W) (ws' : (Nat → Nat) → va_W) : Prop :=
  ∀ sz : Nat, Met l y (.code y cc maxL none :: TT) rm (va_Pc argv (PreW K ws sz)) (va_Qv (fun (_ : Nat → Nat) => True) (fun u t => PostW K (va_A ws sz) (ws' u) t) (va_A ws sz)) rm.cells rm.slots (va_A ws sz)
def CMq (l : Launch) (y : MethodName) (cc : ByteArray) (maxL : Nat) (ret : Option FieldType) (rm : Room) (K : Kx) (argv : List Value) (ws : va_W) (ws' : (Nat → Nat) → va_W) (r0 : Option Nat) : Prop :=
  ∀ sz : Nat, Met l y (.code y cc maxL ret :: TT) rm (va_Pc argv (PreW K ws sz)) (va_Qq (fun r (_ : Nat → Nat) => r = r0) (fun u t => PostW K (va_A ws sz) (ws' u) t) (va_A ws sz)) rm.cells rm.slots (va_A ws sz)
theorem PreW.blind {K : Kx} {ws : va_W} {sz : Nat} {argv : List Value} : FrameBlind (va_Pc argv (PreW K ws sz)) := by
  intro a U g mk q
  obtain ⟨q0, q1, qP, qD, qK⟩ := q
  exact ⟨q0, q1, qP, qD, qK.calling g mk a⟩
/-- the start of a contract's walk -/
theorem cm_start {l : Launch} {y : MethodName} {cc : ByteArray} {maxL : Nat} {ret : Option FieldType} {rm : Room} {K : Kx} {argv : List Value} {ws : va_W} {sz : Nat} {Qc : Array Value → State → Outcome → State → Prop}
    (hy : plainName y.cls = true) (hn : (lg_sl argv).length ≤ maxL)
    (body : ∀ (p : Program) (e : Env) (s : State) (m : MethodId) (args : Array Value) (below : List Frame) (meth : Method) (c : Code) (A : Nat → Prop) (ls : Array Slot), A = va_A ws sz → Fx p s m args c cc maxL y.cls K A → meth.sig.returnType = ret → meth.locks = false → meth.name = y.name → s.heap.size = sz → Wd K A s ws s.heap [] → lv_has ls maxL (lv_args 0 argv) →
      W p l e rm s m args below meth c s.heap [] 0 0 (MQ below Qc args s rm.cells rm.slots A) (F0 m 0 ls [])) :
    Met l y (.code y cc maxL ret :: TT) rm (va_Pc argv (PreW K ws sz)) Qc rm.cells rm.slots (va_A ws sz) := by
  refine Met.ofW (cc := cc) (maxL := maxL) (ret := ret) hy rfl ?_
  intro p e s m args below meth c s₁ B hml hv
  obtain ⟨rfl, hsz, hP, hD0, hK⟩ := hv
  have hts0 := atoms_spec (ws := .code y cc maxL ret :: TT) B.pre
  have hown : s.vm.findClass y.cls = some m.cls := findClass_of_methodNamed B.named
  have hD := hD0.self (sz := sz)
  have hA : ∀ q : Nat, s.heap.size ≤ q → va_A ws sz q := fun q h => Or.inr (hsz ▸ h)
  have hS : va_S (va_A ws sz) s.heap s.heap [] := va_S.rf
  have hl := lv_entry argv hn
  rw [lg_entry_eq]
  exact body p e s m _ below meth c _ _ rfl ⟨B.exec, B.bytes, fun w hw => hts0 w (List.mem_cons_of_mem _ hw), hown, hK, hml, hA⟩ B.returns B.notSynchronized (name_of_methodNamed B.named B.method).1 hsz ⟨hP, hD, hS⟩ hl
section
variable {p : Program} {l : Launch} {e : Env} {R : Room} {s : State} {m : MethodId} {args : Array Value} {below : List Frame} {meth : Method} {c : Code} {H : Heap} {locs : List Loc} {cells slots : Nat} {Q : State → Prop} {cc : ByteArray} {nL : Nat} {own : String} {K : Kx} {A : Nat → Prop} {pc : Nat} {ls : Array Slot} {rest : List Value} {ws : va_W} {ws' : (Nat → Nat) → va_W}
theorem rt_i {r0 v : Int32} {ty : FieldType} (hF : Fx p s m args c cc nL own K A) (hr : meth.sig.returnType = some ty) (hlocks : meth.locks = false) (hn : narrow ty (.int v) = .int v) (u : Nat → Nat) (hW : Wd K A s (ws' u) H locs) (hv : v = r0) (hdg : decode cc pc = .ok (.ireturn, 1)) :
    W p l e R s m args below meth c H locs cells slots (MQ below (va_Qi (fun r (_ : Nat → Nat) => r = r0) (fun u t => PostW K A (ws' u) t) A) args s cells slots A) (F0 m pc ls [.int v]) :=
  W.zret hF.1 hF.2.1 hr hn (fun t ht _ => ⟨⟨v, u, rfl, hv, by rw [ht]; exact hW.1, hW.2.1⟩, hW.2.2.F ht⟩) hW.2.2.2.2 hdg hlocks
theorem rt_l {r0 v : Int64} (hF : Fx p s m args c cc nL own K A) (hr : meth.sig.returnType = some .long) (hlocks : meth.locks = false) (u : Nat → Nat) (hW : Wd K A s (ws' u) H locs) (hv : v = r0) (hdg : decode cc pc = .ok (.lreturn, 1)) :
    W p l e R s m args below meth c H locs cells slots (MQ below (va_Ql (fun r (_ : Nat → Nat) => r = r0) (fun u t => PostW K A (ws' u) t) A) args s cells slots A) (F0 m pc ls [.long v]) :=
  W.lret hF.1 hF.2.1 hr (fun t ht _ => ⟨⟨v, u, rfl, hv, by rw [ht]; exact hW.1, hW.2.1⟩, hW.2.2.F ht⟩) hW.2.2.2.2 hdg hlocks
theorem rt_v (hF : Fx p s m args c cc nL own K A) (hr : meth.sig.returnType = none) (hlocks : meth.locks = false) (u : Nat → Nat) (hW : Wd K A s (ws' u) H locs) (hdg : decode cc pc = .ok (.return_, 1)) :
    W p l e R s m args below meth c H locs cells slots (MQ below (va_Qv (fun (_ : Nat → Nat) => True) (fun u t => PostW K A (ws' u) t) A) args s cells slots A) (F0 m pc ls []) :=
  W.vret hF.1 hF.2.1 hr (fun t ht _ => ⟨⟨u, rfl, trivial, by rw [ht]; exact hW.1, hW.2.1⟩, hW.2.2.F ht⟩) hW.2.2.2.2 hdg hlocks
theorem rt_q {r0 : Option Nat} {n : String} (hF : Fx p s m args c cc nL own K A) (hr : meth.sig.returnType = some (.object n)) (hlocks : meth.locks = false) (u : Nat → Nat) (hW : Wd K A s (ws' u) H locs) (hdg : decode cc pc = .ok (.areturn, 1)) :
    W p l e R s m args below meth c H locs cells slots (MQ below (va_Qq (fun r (_ : Nat → Nat) => r = r0) (fun u t => PostW K A (ws' u) t) A) args s cells slots A) (F0 m pc ls [va_rf r0]) :=
  W.aret hF.1 hF.2.1 hr (Or.inl ⟨n, rfl⟩) (va_rf_or r0) (fun t ht _ => ⟨⟨r0, u, rfl, rfl, by rw [ht]; exact hW.1, hW.2.1⟩, hW.2.2.F ht⟩) hW.2.2.2.2 hdg hlocks
theorem wd_free (hF : Fx p s m args c cc nL own K A) (hW : Wd K A s ws H locs) : ∀ q, va_A ws H.size q → A q := by
  intro q h
  rcases h with ⟨k, e, h⟩ | h
  · exact hW.2.1.2 k (q, e) h
  · exact hF.2.2.2.2.2.2 q (Nat.le_trans hW.2.2.1 h)
theorem wd_post {ws1 : va_W} {H1 : Heap} {locs1 : List Loc} {t : State} (hF : Fx p s m args c cc nL own K A) (hW : Wd K A s ws H locs) (ht : t.heap = H1) (hB : PostW K (va_A ws H.size) ws1 t) (hS : va_S A s.heap H1 locs1) : Wd K A s ws1 H1 locs1 :=
  ⟨by rw [← ht]; exact hB.1, hB.2.weaken (fun _ q _ h => wd_free hF hW q.1 h), hS⟩
theorem wd_pre {argv : List Value} (hF : Fx p s m args c cc nL own K A) (hW : Wd K A s ws H locs) : ∀ U : State, U.heap = H → s.WarmedH U.vm → va_Pc argv (PreW K ws H.size) argv.toArray U :=
  fun U hU hw => ⟨rfl, by rw [hU], by rw [hU]; exact hW.1, hW.2.1.weaken (fun _ _ _ _ => trivial), hF.2.2.2.2.1.moved hw⟩
/-- the words of a call -/
def mwV (own : String) (idx : Nat) (C : String) (y : MethodName) (bytes : ByteArray) (maxL : Nat) (ret : Option FieldType) (n : Nat) : Prop :=
  (Cond.methodLink own idx y ∈ TT ∧ Cond.instanceMethod y ∈ TT ∧ Cond.selects C y y ∈ TT ∧ Cond.initialized C ∈ TT ∧ Cond.code y bytes maxL ret ∈ TT) ∧ y.cls = C ∧ y.cls ≠ "java/lang/invoke/MethodHandle" ∧ y.cls ≠ "java/lang/invoke/VarHandle" ∧ (parseMethodDescriptor y.desc).map (fun d => d.parameters.length) = some n
def mwS (own : String) (idx : Nat) (y : MethodName) (bytes : ByteArray) (maxL : Nat) (ret : Option FieldType) (n : Nat) : Prop :=
  (Cond.methodLink own idx y ∈ TT ∧ Cond.static y ∈ TT ∧ Cond.initialized y.cls ∈ TT ∧ Cond.code y bytes maxL ret ∈ TT) ∧ y.cls ≠ "java/lang/invoke/MethodHandle" ∧ y.cls ≠ "java/lang/invoke/VarHandle" ∧ (parseMethodDescriptor y.desc).map (fun d => d.parameters.length) = some n
theorem cw_V {rm : Room} {C : String} {y : MethodName} {bytes : ByteArray} {maxL idx n : Nat} {ret : Option FieldType} (hF : Fx p s m args c cc nL own K A) (h : mwV own idx C y bytes maxL ret n) (hR : rm.frames + 1 ≤ R.frames ∧ 8 + (maxL + 11) + rm.locals ≤ R.locals) :
    CallW R s args own C idx y bytes maxL ret (.code y bytes maxL ret :: TT) rm rm.cells rm.slots n := by
  obtain ⟨⟨h1, h2, h3, h4, h5⟩, hd⟩ := h
  exact cwV n hF.2.2.1 (good_V h1 h2 h3 h4 h5) rfl rfl rfl hd hR
theorem cw_S {rm : Room} {y : MethodName} {bytes : ByteArray} {maxL idx n : Nat} {ret : Option FieldType} (hF : Fx p s m args c cc nL own K A) (h : mwS own idx y bytes maxL ret n) (hR : rm.frames + 1 ≤ R.frames ∧ 8 + (maxL + 11) + rm.locals ≤ R.locals) :
    CallB R s args own idx y bytes maxL ret (.code y bytes maxL ret :: TT) rm rm.cells rm.slots n ∧ (Cond.static y).before args s = true := by
  obtain ⟨⟨h1, h2, h3, h4⟩, hd⟩ := h
  exact ⟨callB_of n hF.2.2.1 (good_M h4) rfl rfl rfl (hF.2.2.1 _ h3) (hF.2.2.1 _ h1) hd hR, hF.2.2.1 _ h2⟩
section
variable {y : MethodName} {bytes : ByteArray} {maxL idx n : Nat} {rm : Room} {C : String} {As : List Value} {st : List Value} {ret : Option FieldType} {b : Nat}
theorem cV_i {r0 : Int32} (hF : Fx p s m args c cc nL own K A) (hW : Wd K A s ws H locs) (mw : mwV own idx C y bytes maxL ret n) (hM : CMi l y bytes maxL ret rm K (.ref b :: As) ws ws' r0)
    (hR : rm.frames + 1 ≤ R.frames ∧ 8 + (maxL + 11) + rm.locals ≤ R.locals) {ci q0 : Nat} {q : vw_C} {fs : List Value} (hc : vwCl[ci]? = some q) (hC : q.1 = C) (he : ws[q0]? = some (b, .inr (ci, fs)))
    (hn : As.length = n) (hsz : ls.size = nL) (hst : st = As.reverse ++ .ref b :: rest) (hrm : (rest.map fun v => v.category).sum ≤ 8) (hdg : decode cc pc = .ok (.invokevirtual idx, 3)) (hce : cells + rm.cells ≤ R.cells ∧ slots + rm.slots ≤ R.slots)
    (kk : ∀ (u : Nat → Nat) (H1 : Heap) (locs1 : List Loc), Wd K A s (ws' u) H1 locs1 → W p l e R s m args below meth c H1 locs1 (cells + rm.cells) (slots + rm.slots) Q (F0 m (pc + 3) ls (.int r0 :: rest))) :
    W p l e R s m args below meth c H locs cells slots Q (F0 m pc ls st) := by
  subst hst; subst hC
  have hf := wd_free hF hW
  refine va_calli (va_runV (As := As) (rest := rest) ⟨hF.1, hF.2.1, hF.2.2.2.2.2.1, hF.2.2.2.1, hF.2.2.1⟩ (hM H.size) (cw_V hF mw hR) ⟨PreW.blind, va_recv hF.2.2.2.2.1.1 hW.1 hc he, wd_pre hF hW⟩ rfl hn hsz rfl (lv_room hrm) hdg hce) hW.2.2 (fun q _ h => hf q h) hf (fun r u t H1 locs1 ht hvm hw hB hz hk hS => ?_)
  subst hw
  exact kk u H1 locs1 (wd_post hF hW ht hB hS)
theorem cV_l {r0 : Int64} (hF : Fx p s m args c cc nL own K A) (hW : Wd K A s ws H locs) (mw : mwV own idx C y bytes maxL (some .long) n) (hM : CMl l y bytes maxL rm K (.ref b :: As) ws ws' r0)
    (hR : rm.frames + 1 ≤ R.frames ∧ 8 + (maxL + 11) + rm.locals ≤ R.locals) {ci q0 : Nat} {q : vw_C} {fs : List Value} (hc : vwCl[ci]? = some q) (hC : q.1 = C) (he : ws[q0]? = some (b, .inr (ci, fs)))
    (hn : As.length = n) (hsz : ls.size = nL) (hst : st = As.reverse ++ .ref b :: rest) (hrm : (rest.map fun v => v.category).sum ≤ 8) (hdg : decode cc pc = .ok (.invokevirtual idx, 3)) (hce : cells + rm.cells ≤ R.cells ∧ slots + rm.slots ≤ R.slots)
    (kk : ∀ (u : Nat → Nat) (H1 : Heap) (locs1 : List Loc), Wd K A s (ws' u) H1 locs1 → W p l e R s m args below meth c H1 locs1 (cells + rm.cells) (slots + rm.slots) Q (F0 m (pc + 3) ls (.long r0 :: rest))) :
    W p l e R s m args below meth c H locs cells slots Q (F0 m pc ls st) := by
  subst hst; subst hC
  have hf := wd_free hF hW
  refine va_calll (va_runV (As := As) (rest := rest) ⟨hF.1, hF.2.1, hF.2.2.2.2.2.1, hF.2.2.2.1, hF.2.2.1⟩ (hM H.size) (cw_V hF mw hR) ⟨PreW.blind, va_recv hF.2.2.2.2.1.1 hW.1 hc he, wd_pre hF hW⟩ rfl hn hsz rfl (lv_room hrm) hdg hce) hW.2.2 (fun q _ h => hf q h) hf (fun r u t H1 locs1 ht hvm hw hB hz hk hS => ?_)
  subst hw
  exact kk u H1 locs1 (wd_post hF hW ht hB hS)
theorem cV_v (hF : Fx p s m args c cc nL own K A) (hW : Wd K A s ws H locs) (mw : mwV own idx C y bytes maxL none n) (hM : CMv l y bytes maxL rm K (.ref b :: As) ws ws')
    (hR : rm.frames + 1 ≤ R.frames ∧ 8 + (maxL + 11) + rm.locals ≤ R.locals) {ci q0 : Nat} {q : vw_C} {fs : List Value} (hc : vwCl[ci]? = some q) (hC : q.1 = C) (he : ws[q0]? = some (b, .inr (ci, fs)))
    (hn : As.length = n) (hsz : ls.size = nL) (hst : st = As.reverse ++ .ref b :: rest) (hrm : (rest.map fun v => v.category).sum ≤ 8) (hdg : decode cc pc = .ok (.invokevirtual idx, 3)) (hce : cells + rm.cells ≤ R.cells ∧ slots + rm.slots ≤ R.slots)
    (kk : ∀ (u : Nat → Nat) (H1 : Heap) (locs1 : List Loc), Wd K A s (ws' u) H1 locs1 → W p l e R s m args below meth c H1 locs1 (cells + rm.cells) (slots + rm.slots) Q (F0 m (pc + 3) ls rest)) :
    W p l e R s m args below meth c H locs cells slots Q (F0 m pc ls st) := by
  subst hst; subst hC
  have hf := wd_free hF hW
  refine va_callv (va_runV (As := As) (rest := rest) ⟨hF.1, hF.2.1, hF.2.2.2.2.2.1, hF.2.2.2.1, hF.2.2.1⟩ (hM H.size) (cw_V hF mw hR) ⟨PreW.blind, va_recv hF.2.2.2.2.1.1 hW.1 hc he, wd_pre hF hW⟩ rfl hn hsz rfl (lv_room hrm) hdg hce) hW.2.2 (fun q _ h => hf q h) hf (fun u t H1 locs1 ht hvm hw hB hz hk hS => ?_)
  exact kk u H1 locs1 (wd_post hF hW ht hB hS)
theorem cV_q {r0 : Option Nat} (hF : Fx p s m args c cc nL own K A) (hW : Wd K A s ws H locs) (mw : mwV own idx C y bytes maxL ret n) (hM : CMq l y bytes maxL ret rm K (.ref b :: As) ws ws' r0)
    (hR : rm.frames + 1 ≤ R.frames ∧ 8 + (maxL + 11) + rm.locals ≤ R.locals) {ci q0 : Nat} {q : vw_C} {fs : List Value} (hc : vwCl[ci]? = some q) (hC : q.1 = C) (he : ws[q0]? = some (b, .inr (ci, fs)))
    (hn : As.length = n) (hsz : ls.size = nL) (hst : st = As.reverse ++ .ref b :: rest) (hrm : (rest.map fun v => v.category).sum ≤ 8) (hdg : decode cc pc = .ok (.invokevirtual idx, 3)) (hce : cells + rm.cells ≤ R.cells ∧ slots + rm.slots ≤ R.slots)
    (kk : ∀ (u : Nat → Nat) (H1 : Heap) (locs1 : List Loc), Wd K A s (ws' u) H1 locs1 → W p l e R s m args below meth c H1 locs1 (cells + rm.cells) (slots + rm.slots) Q (F0 m (pc + 3) ls (va_rf r0 :: rest))) :
    W p l e R s m args below meth c H locs cells slots Q (F0 m pc ls st) := by
  subst hst; subst hC
  have hf := wd_free hF hW
  refine va_callq (va_runV (As := As) (rest := rest) ⟨hF.1, hF.2.1, hF.2.2.2.2.2.1, hF.2.2.2.1, hF.2.2.1⟩ (hM H.size) (cw_V hF mw hR) ⟨PreW.blind, va_recv hF.2.2.2.2.1.1 hW.1 hc he, wd_pre hF hW⟩ rfl hn hsz rfl (lv_room hrm) hdg hce) hW.2.2 (fun q _ h => hf q h) hf (fun r u t H1 locs1 ht hvm hw hB hz hk hS => ?_)
  subst hw
  exact kk u H1 locs1 (wd_post hF hW ht hB hS)
theorem cS_i {r0 : Int32} (hF : Fx p s m args c cc nL own K A) (hW : Wd K A s ws H locs) (mw : mwS own idx y bytes maxL ret n) (hM : CMi l y bytes maxL ret rm K As ws ws' r0)
    (hR : rm.frames + 1 ≤ R.frames ∧ 8 + (maxL + 11) + rm.locals ≤ R.locals)
    (hn : As.length = n) (hsz : ls.size = nL) (hst : st = As.reverse ++ rest) (hrm : (rest.map fun v => v.category).sum ≤ 8) (hdg : decode cc pc = .ok (.invokestatic idx, 3)) (hce : cells + rm.cells ≤ R.cells ∧ slots + rm.slots ≤ R.slots)
    (kk : ∀ (u : Nat → Nat) (H1 : Heap) (locs1 : List Loc), Wd K A s (ws' u) H1 locs1 → W p l e R s m args below meth c H1 locs1 (cells + rm.cells) (slots + rm.slots) Q (F0 m (pc + 3) ls (.int r0 :: rest))) :
    W p l e R s m args below meth c H locs cells slots Q (F0 m pc ls st) := by
  subst hst
  have hf := wd_free hF hW
  refine va_calli (va_runS (As := As) (rest := rest) ⟨hF.1, hF.2.1, hF.2.2.2.2.2.1, hF.2.2.2.1, hF.2.2.1⟩ (hM H.size) (cw_S hF mw hR) ⟨PreW.blind, wd_pre hF hW⟩ rfl hn hsz rfl (lv_room hrm) hdg hce) hW.2.2 (fun q _ h => hf q h) hf (fun r u t H1 locs1 ht hvm hw hB hz hk hS => ?_)
  subst hw
  exact kk u H1 locs1 (wd_post hF hW ht hB hS)
theorem cS_l {r0 : Int64} (hF : Fx p s m args c cc nL own K A) (hW : Wd K A s ws H locs) (mw : mwS own idx y bytes maxL (some .long) n) (hM : CMl l y bytes maxL rm K As ws ws' r0)
    (hR : rm.frames + 1 ≤ R.frames ∧ 8 + (maxL + 11) + rm.locals ≤ R.locals)
    (hn : As.length = n) (hsz : ls.size = nL) (hst : st = As.reverse ++ rest) (hrm : (rest.map fun v => v.category).sum ≤ 8) (hdg : decode cc pc = .ok (.invokestatic idx, 3)) (hce : cells + rm.cells ≤ R.cells ∧ slots + rm.slots ≤ R.slots)
    (kk : ∀ (u : Nat → Nat) (H1 : Heap) (locs1 : List Loc), Wd K A s (ws' u) H1 locs1 → W p l e R s m args below meth c H1 locs1 (cells + rm.cells) (slots + rm.slots) Q (F0 m (pc + 3) ls (.long r0 :: rest))) :
    W p l e R s m args below meth c H locs cells slots Q (F0 m pc ls st) := by
  subst hst
  have hf := wd_free hF hW
  refine va_calll (va_runS (As := As) (rest := rest) ⟨hF.1, hF.2.1, hF.2.2.2.2.2.1, hF.2.2.2.1, hF.2.2.1⟩ (hM H.size) (cw_S hF mw hR) ⟨PreW.blind, wd_pre hF hW⟩ rfl hn hsz rfl (lv_room hrm) hdg hce) hW.2.2 (fun q _ h => hf q h) hf (fun r u t H1 locs1 ht hvm hw hB hz hk hS => ?_)
  subst hw
  exact kk u H1 locs1 (wd_post hF hW ht hB hS)
theorem cS_v (hF : Fx p s m args c cc nL own K A) (hW : Wd K A s ws H locs) (mw : mwS own idx y bytes maxL none n) (hM : CMv l y bytes maxL rm K As ws ws')
    (hR : rm.frames + 1 ≤ R.frames ∧ 8 + (maxL + 11) + rm.locals ≤ R.locals)
    (hn : As.length = n) (hsz : ls.size = nL) (hst : st = As.reverse ++ rest) (hrm : (rest.map fun v => v.category).sum ≤ 8) (hdg : decode cc pc = .ok (.invokestatic idx, 3)) (hce : cells + rm.cells ≤ R.cells ∧ slots + rm.slots ≤ R.slots)
    (kk : ∀ (u : Nat → Nat) (H1 : Heap) (locs1 : List Loc), Wd K A s (ws' u) H1 locs1 → W p l e R s m args below meth c H1 locs1 (cells + rm.cells) (slots + rm.slots) Q (F0 m (pc + 3) ls rest)) :
    W p l e R s m args below meth c H locs cells slots Q (F0 m pc ls st) := by
  subst hst
  have hf := wd_free hF hW
  refine va_callv (va_runS (As := As) (rest := rest) ⟨hF.1, hF.2.1, hF.2.2.2.2.2.1, hF.2.2.2.1, hF.2.2.1⟩ (hM H.size) (cw_S hF mw hR) ⟨PreW.blind, wd_pre hF hW⟩ rfl hn hsz rfl (lv_room hrm) hdg hce) hW.2.2 (fun q _ h => hf q h) hf (fun u t H1 locs1 ht hvm hw hB hz hk hS => ?_)
  exact kk u H1 locs1 (wd_post hF hW ht hB hS)
end
end
def EndI (K : Kx) (A : Nat → Prop) (ws' : (Nat → Nat) → va_W) (r0 : Int32) (below : List Frame) (args : Array Value) (s : State) (rm : Room) : State → Prop := MQ below (va_Qi (fun r (_ : Nat → Nat) => r = r0) (fun u t => PostW K A (ws' u) t) A) args s rm.cells rm.slots A
def EndL (K : Kx) (A : Nat → Prop) (ws' : (Nat → Nat) → va_W) (r0 : Int64) (below : List Frame) (args : Array Value) (s : State) (rm : Room) : State → Prop := MQ below (va_Ql (fun r (_ : Nat → Nat) => r = r0) (fun u t => PostW K A (ws' u) t) A) args s rm.cells rm.slots A
def EndV (K : Kx) (A : Nat → Prop) (ws' : (Nat → Nat) → va_W) (below : List Frame) (args : Array Value) (s : State) (rm : Room) : State → Prop := MQ below (va_Qv (fun (_ : Nat → Nat) => True) (fun u t => PostW K A (ws' u) t) A) args s rm.cells rm.slots A
def EndQ (K : Kx) (A : Nat → Prop) (ws' : (Nat → Nat) → va_W) (r0 : Option Nat) (below : List Frame) (args : Array Value) (s : State) (rm : Room) : State → Prop := MQ below (va_Qq (fun r (_ : Nat → Nat) => r = r0) (fun u t => PostW K A (ws' u) t) A) args s rm.cells rm.slots A
section
variable {l : Launch} {y : MethodName} {cc : ByteArray} {maxL : Nat} {ret : Option FieldType} {rm : Room} {K : Kx} {argv : List Value} {ws : va_W} {ws' : (Nat → Nat) → va_W}
theorem cs_i {r0 : Int32} (hy : plainName y.cls = true) (hn : (lg_sl argv).length ≤ maxL)
    (body : ∀ (p : Program) (e : Env) (s : State) (m : MethodId) (args : Array Value) (below : List Frame) (meth : Method) (c : Code) (A : Nat → Prop) (ls : Array Slot), Fx p s m args c cc maxL y.cls K A → meth.sig.returnType = ret → meth.locks = false → meth.name = y.name → Wd K A s ws s.heap [] → lv_has ls maxL (lv_args 0 argv) →
      W p l e rm s m args below meth c s.heap [] 0 0 (EndI K A ws' r0 below args s rm) (F0 m 0 ls [])) : CMi l y cc maxL ret rm K argv ws ws' r0 := by
  intro sz
  refine cm_start hy hn ?_
  intro p e s m args below meth c A ls hA hF hr hk hnm hsz hW hl
  rw [← hA]
  exact body p e s m args below meth c A ls hF hr hk hnm hW hl
theorem cs_l {r0 : Int64} (hy : plainName y.cls = true) (hn : (lg_sl argv).length ≤ maxL)
    (body : ∀ (p : Program) (e : Env) (s : State) (m : MethodId) (args : Array Value) (below : List Frame) (meth : Method) (c : Code) (A : Nat → Prop) (ls : Array Slot), Fx p s m args c cc maxL y.cls K A → meth.sig.returnType = some .long → meth.locks = false → meth.name = y.name → Wd K A s ws s.heap [] → lv_has ls maxL (lv_args 0 argv) →
      W p l e rm s m args below meth c s.heap [] 0 0 (EndL K A ws' r0 below args s rm) (F0 m 0 ls [])) : CMl l y cc maxL rm K argv ws ws' r0 := by
  intro sz
  refine cm_start hy hn ?_
  intro p e s m args below meth c A ls hA hF hr hk hnm hsz hW hl
  rw [← hA]
  exact body p e s m args below meth c A ls hF hr hk hnm hW hl
theorem cs_v (hy : plainName y.cls = true) (hn : (lg_sl argv).length ≤ maxL)
    (body : ∀ (p : Program) (e : Env) (s : State) (m : MethodId) (args : Array Value) (below : List Frame) (meth : Method) (c : Code) (A : Nat → Prop) (ls : Array Slot), Fx p s m args c cc maxL y.cls K A → meth.sig.returnType = none → meth.locks = false → meth.name = y.name → Wd K A s ws s.heap [] → lv_has ls maxL (lv_args 0 argv) →
      W p l e rm s m args below meth c s.heap [] 0 0 (EndV K A ws' below args s rm) (F0 m 0 ls [])) : CMv l y cc maxL rm K argv ws ws' := by
  intro sz
  refine cm_start hy hn ?_
  intro p e s m args below meth c A ls hA hF hr hk hnm hsz hW hl
  rw [← hA]
  exact body p e s m args below meth c A ls hF hr hk hnm hW hl
theorem cs_q {r0 : Option Nat} (hy : plainName y.cls = true) (hn : (lg_sl argv).length ≤ maxL)
    (body : ∀ (p : Program) (e : Env) (s : State) (m : MethodId) (args : Array Value) (below : List Frame) (meth : Method) (c : Code) (A : Nat → Prop) (ls : Array Slot), Fx p s m args c cc maxL y.cls K A → meth.sig.returnType = ret → meth.locks = false → meth.name = y.name → Wd K A s ws s.heap [] → lv_has ls maxL (lv_args 0 argv) →
      W p l e rm s m args below meth c s.heap [] 0 0 (EndQ K A ws' r0 below args s rm) (F0 m 0 ls [])) : CMq l y cc maxL ret rm K argv ws ws' r0 := by
  intro sz
  refine cm_start hy hn ?_
  intro p e s m args below meth c A ls hA hF hr hk hnm hsz hW hl
  rw [← hA]
  exact body p e s m args below meth c A ls hF hr hk hnm hW hl
end
