/-! the pure memory of a system; checks that may fail; rows of walks over it -/
abbrev Dyn : Type := (Nat → Nat → Int32) × (Nat → Nat → Int64) × (Nat → Nat)
abbrev Mem : Type := (Nat → Nat → Int32) × (Nat → Nat → Int64) × (Nat → Nat → Option Nat) × Dyn
def sI (M : Mem) (c k : Nat) (x : Int32) : Mem := (va_up M.1 c (upd (M.1 c) k x), M.2)
def sL (M : Mem) (c k : Nat) (x : Int64) : Mem := (M.1, va_up M.2.1 c (vp_updL (M.2.1 c) k x), M.2.2)
def sQ (M : Mem) (c k : Nat) (x : Option Nat) : Mem := (M.1, M.2.1, va_up M.2.2.1 c (va_up (M.2.2.1 c) k x), M.2.2.2)
def tI (M : Mem) (c k : Nat) (x : Int32) : Mem := (M.1, M.2.1, M.2.2.1, va_up M.2.2.2.1 c (upd (M.2.2.2.1 c) k x), M.2.2.2.2)
def tL (M : Mem) (c k : Nat) (x : Int64) : Mem := (M.1, M.2.1, M.2.2.1, M.2.2.2.1, va_up M.2.2.2.2.1 c (vp_updL (M.2.2.2.2.1 c) k x), M.2.2.2.2.2)
/-- the places lo .. hi - 1 hold x -/
def fl_ {α : Type} (f : Nat → α) (lo hi : Nat) (x : α) : Nat → α := fun j => if lo ≤ j ∧ j < hi then x else f j
def fI (M : Mem) (c lo hi : Nat) (x : Int32) : Mem := (va_up M.1 c (fl_ (M.1 c) lo hi x), M.2)
def fL (M : Mem) (c lo hi : Nat) (x : Int64) : Mem := (M.1, va_up M.2.1 c (fl_ (M.2.1 c) lo hi x), M.2.2)
def yI (M : Mem) (c sp d dp n : Nat) : Mem := (va_up M.1 d (va_cpy (M.1 c) (M.1 d) sp dp n), M.2)
def yL (M : Mem) (c sp d dp n : Nat) : Mem := (M.1, va_up M.2.1 d (va_cpy (M.2.1 c) (M.2.1 d) sp dp n), M.2.2)
def zb (x : Int32) : Bool := x == 1
def ck {α : Type} (i : Int32) (n : Nat) (k : Option α) : Option α := if i < 0 ∨ n ≤ i.toNatClampNeg then none else k
theorem ck_some {α : Type} {i : Int32} {n : Nat} {k : Option α} {r : α} (h : ck i n k = some r) : vp_in i n ∧ k = some r := by
  unfold ck at h
  by_cases q : i < 0 ∨ n ≤ i.toNatClampNeg
  · rw [if_pos q] at h; cases h
  · rw [if_neg q] at h; exact ⟨q, h⟩
def nzI {α : Type} (x : Int32) (k : Option α) : Option α := if x = 0 then none else k
theorem nzI_some {α : Type} {x : Int32} {k : Option α} {r : α} (h : nzI x k = some r) : ¬ x = 0 ∧ k = some r := by
  unfold nzI at h
  by_cases q : x = 0
  · rw [if_pos q] at h; cases h
  · rw [if_neg q] at h; exact ⟨q, h⟩
def nzL {α : Type} (x : Int64) (k : Option α) : Option α := if x = 0 then none else k
theorem nzL_some {α : Type} {x : Int64} {k : Option α} {r : α} (h : nzL x k = some r) : ¬ x = 0 ∧ k = some r := by
  unfold nzL at h
  by_cases q : x = 0
  · rw [if_pos q] at h; cases h
  · rw [if_neg q] at h; exact ⟨q, h⟩
/-- arraycopy's and fill's ranges -/
def ca {α : Type} (sp dp n : Int32) (n0 n1 : Nat) (k : Option α) : Option α := if ¬ sp < 0 ∧ ¬ dp < 0 ∧ ¬ n < 0 ∧ sp.toNatClampNeg + n.toNatClampNeg ≤ n0 ∧ dp.toNatClampNeg + n.toNatClampNeg ≤ n1 then k else none
theorem ca_some {α : Type} {sp dp n : Int32} {n0 n1 : Nat} {k : Option α} {r : α} (h : ca sp dp n n0 n1 k = some r) : (¬ sp < 0 ∧ ¬ dp < 0 ∧ ¬ n < 0 ∧ sp.toNatClampNeg + n.toNatClampNeg ≤ n0 ∧ dp.toNatClampNeg + n.toNatClampNeg ≤ n1) ∧ k = some r := by
  unfold ca at h
  by_cases q : ¬ sp < 0 ∧ ¬ dp < 0 ∧ ¬ n < 0 ∧ sp.toNatClampNeg + n.toNatClampNeg ≤ n0 ∧ dp.toNatClampNeg + n.toNatClampNeg ≤ n1
  · rw [if_pos q] at h; exact ⟨q, h⟩
  · rw [if_neg q] at h; cases h
def cf {α : Type} (lo hi : Int32) (n : Nat) (k : Option α) : Option α := if ¬ lo < 0 ∧ lo ≤ hi ∧ hi.toNatClampNeg ≤ n then k else none
theorem cf_some {α : Type} {lo hi : Int32} {n : Nat} {k : Option α} {r : α} (h : cf lo hi n k = some r) : (¬ lo < 0 ∧ lo ≤ hi ∧ hi.toNatClampNeg ≤ n) ∧ k = some r := by
  unfold cf at h
  by_cases q : ¬ lo < 0 ∧ lo ≤ hi ∧ hi.toNatClampNeg ≤ n
  · rw [if_pos q] at h; exact ⟨q, h⟩
  · rw [if_neg q] at h; cases h
def cN {α : Type} (i n : Nat) (k : Option α) : Option α := if i < n then k else none
theorem cN_some {α : Type} {i n : Nat} {k : Option α} {r : α} (h : cN i n k = some r) : i < n ∧ k = some r := by
  unfold cN at h
  by_cases q : i < n
  · rw [if_pos q] at h; exact ⟨q, h⟩
  · rw [if_neg q] at h; cases h
/-- bytes that are bytes -/
def cB {α : Type} (f : Nat → Int32) (sp n : Nat) (k : Option α) : Option α := if (List.range n).all (fun i => fits .byte (.int (f (sp + i)))) = true then k else none
theorem cB_some {α : Type} {f : Nat → Int32} {sp n : Nat} {k : Option α} {r : α} (h : cB f sp n k = some r) : (∀ i, i < n → fits .byte (.int (f (sp + i))) = true) ∧ k = some r := by
  unfold cB at h
  by_cases q : (List.range n).all (fun i => fits .byte (.int (f (sp + i)))) = true
  · rw [if_pos q] at h; exact ⟨fun i hi => List.all_eq_true.mp q i (List.mem_range.mpr hi), h⟩
  · rw [if_neg q] at h; cases h
def oq {α : Type} (x : Option Nat) (a : Option α) (k : Nat → Option α) : Option α := match x with
  | none => a
  | some i => k i
def bd {α β : Type} (x : Option (α × Mem)) (k : α → Mem → Option β) : Option β := match x with
  | none => none
  | some q => k q.1 q.2
theorem bd_some {α β : Type} {x : Option (α × Mem)} {k : α → Mem → Option β} {r : β} (h : bd x k = some r) : ∃ (a : α) (M : Mem), x = some (a, M) ∧ k a M = some r := by
  cases x with
  | none => cases h
  | some q => exact ⟨q.1, q.2, rfl, h⟩
def bm {β : Type} (x : Option Mem) (k : Mem → Option β) : Option β := match x with
  | none => none
  | some q => k q
theorem bm_some {β : Type} {x : Option Mem} {k : Mem → Option β} {r : β} (h : bm x k = some r) : ∃ M : Mem, x = some M ∧ k M = some r := by
  cases x with
  | none => cases h
  | some q => exact ⟨q, rfl, h⟩
def bq {α β : Type} (x : Option α) (k : α → Option β) : Option β := match x with
  | none => none
  | some q => k q
theorem bq_some {α β : Type} {x : Option α} {k : α → Option β} {r : β} (h : bq x k = some r) : ∃ a : α, x = some a ∧ k a = some r := by
  cases x with
  | none => cases h
  | some q => exact ⟨q, rfl, h⟩
theorem ifp {α : Type} {c : Prop} {d : Decidable c} {a b r : α} (hc : c) (h : @ite _ c d a b = r) : a = r := by rw [if_pos hc] at h; exact h
theorem ifn {α : Type} {c : Prop} {d : Decidable c} {a b r : α} (hc : ¬ c) (h : @ite _ c d a b = r) : b = r := by rw [if_neg hc] at h; exact h
section
variable {p : Program} {l : Launch} {e : Env} {R : Room} {s : State} {m : MethodId} {args : Array Value} {below : List Frame} {meth : Method} {c : Code} {H : Heap} {locs : List Loc} {cells slots : Nat} {Q : State → Prop} {cc : ByteArray} {nL : Nat} {own : String} {K : Kx} {A : Nat → Prop} {pc : Nat} {ls : Array Slot} {rest : List Value} {ws ws1 : va_W}
theorem lz_eq (hexec : p.tables.exec = Jvm.exec) (hb : c.code = cc) {b : Bool} {off : Int} {tgt : Nat} (hdg : decode cc pc = .ok (.ifCond .eq off, 3)) (ht : (pc : Int) + off = (tgt : Int))
    (kt : ¬ b = true → W p l e R s m args below meth c H locs cells slots Q (F0 m tgt ls rest)) (kf : b = true → W p l e R s m args below meth c H locs cells slots Q (F0 m (pc + 3) ls rest)) : W p l e R s m args below meth c H locs cells slots Q (F0 m pc ls (.int (bI b) :: rest)) := by
  refine lv_if_eq hexec hb hdg ht (fun q => kt ?_) (fun q => kf ?_)
  · intro h; subst h; exact absurd q (by decide)
  · cases b
    · exact absurd rfl q
    · rfl
theorem lz_ne (hexec : p.tables.exec = Jvm.exec) (hb : c.code = cc) {b : Bool} {off : Int} {tgt : Nat} (hdg : decode cc pc = .ok (.ifCond .ne off, 3)) (ht : (pc : Int) + off = (tgt : Int))
    (kt : b = true → W p l e R s m args below meth c H locs cells slots Q (F0 m tgt ls rest)) (kf : ¬ b = true → W p l e R s m args below meth c H locs cells slots Q (F0 m (pc + 3) ls rest)) : W p l e R s m args below meth c H locs cells slots Q (F0 m pc ls (.int (bI b) :: rest)) := by
  refine lv_if_ne hexec hb hdg ht (fun q => kt ?_) (fun q => kf ?_)
  · cases b
    · exact absurd rfl q
    · rfl
  · intro h; subst h; exact absurd q (by decide)
theorem ll_eq (hexec : p.tables.exec = Jvm.exec) (hb : c.code = cc) {x y : Int64} {off : Int} {tgt : Nat} (hd0 : decode cc pc = .ok (.lcmp, 1)) (hdg : decode cc (pc + 1) = .ok (.ifCond .eq off, 3)) (ht : ((pc + 1 : Nat) : Int) + off = (tgt : Int))
    (kt : x = y → W p l e R s m args below meth c H locs cells slots Q (F0 m tgt ls rest)) (kf : ¬ x = y → W p l e R s m args below meth c H locs cells slots Q (F0 m (pc + 1 + 3) ls rest)) : W p l e R s m args below meth c H locs cells slots Q (F0 m pc ls (.long y :: .long x :: rest)) :=
  W.lcmp hexec hb hd0 (lv_if_eq hexec hb hdg ht (fun q => kt ((lg_cmp_eq x y).mp q)) (fun q => kf (fun z => q ((lg_cmp_eq x y).mpr z))))
theorem ll_ne (hexec : p.tables.exec = Jvm.exec) (hb : c.code = cc) {x y : Int64} {off : Int} {tgt : Nat} (hd0 : decode cc pc = .ok (.lcmp, 1)) (hdg : decode cc (pc + 1) = .ok (.ifCond .ne off, 3)) (ht : ((pc + 1 : Nat) : Int) + off = (tgt : Int))
    (kt : ¬ x = y → W p l e R s m args below meth c H locs cells slots Q (F0 m tgt ls rest)) (kf : x = y → W p l e R s m args below meth c H locs cells slots Q (F0 m (pc + 1 + 3) ls rest)) : W p l e R s m args below meth c H locs cells slots Q (F0 m pc ls (.long y :: .long x :: rest)) :=
  W.lcmp hexec hb hd0 (lv_if_ne hexec hb hdg ht (fun q => kt (fun z => q ((lg_cmp_eq x y).mpr z))) (fun q => kf ((lg_cmp_eq x y).mp q)))
theorem ll_lt (hexec : p.tables.exec = Jvm.exec) (hb : c.code = cc) {x y : Int64} {off : Int} {tgt : Nat} (hd0 : decode cc pc = .ok (.lcmp, 1)) (hdg : decode cc (pc + 1) = .ok (.ifCond .lt off, 3)) (ht : ((pc + 1 : Nat) : Int) + off = (tgt : Int))
    (kt : x < y → W p l e R s m args below meth c H locs cells slots Q (F0 m tgt ls rest)) (kf : ¬ x < y → W p l e R s m args below meth c H locs cells slots Q (F0 m (pc + 1 + 3) ls rest)) : W p l e R s m args below meth c H locs cells slots Q (F0 m pc ls (.long y :: .long x :: rest)) :=
  W.lcmp hexec hb hd0 (lv_if_lt hexec hb hdg ht (fun q => kt ((lg_cmp_lt x y).mp q)) (fun q => kf (fun z => q ((lg_cmp_lt x y).mpr z))))
theorem ll_ge (hexec : p.tables.exec = Jvm.exec) (hb : c.code = cc) {x y : Int64} {off : Int} {tgt : Nat} (hd0 : decode cc pc = .ok (.lcmp, 1)) (hdg : decode cc (pc + 1) = .ok (.ifCond .ge off, 3)) (ht : ((pc + 1 : Nat) : Int) + off = (tgt : Int))
    (kt : y ≤ x → W p l e R s m args below meth c H locs cells slots Q (F0 m tgt ls rest)) (kf : ¬ y ≤ x → W p l e R s m args below meth c H locs cells slots Q (F0 m (pc + 1 + 3) ls rest)) : W p l e R s m args below meth c H locs cells slots Q (F0 m pc ls (.long y :: .long x :: rest)) :=
  W.lcmp hexec hb hd0 (lv_if_ge hexec hb hdg ht (fun q => kt ((lg_cmp_ge x y).mp q)) (fun q => kf (fun z => q ((lg_cmp_ge x y).mpr z))))
theorem ll_gt (hexec : p.tables.exec = Jvm.exec) (hb : c.code = cc) {x y : Int64} {off : Int} {tgt : Nat} (hd0 : decode cc pc = .ok (.lcmp, 1)) (hdg : decode cc (pc + 1) = .ok (.ifCond .gt off, 3)) (ht : ((pc + 1 : Nat) : Int) + off = (tgt : Int))
    (kt : y < x → W p l e R s m args below meth c H locs cells slots Q (F0 m tgt ls rest)) (kf : ¬ y < x → W p l e R s m args below meth c H locs cells slots Q (F0 m (pc + 1 + 3) ls rest)) : W p l e R s m args below meth c H locs cells slots Q (F0 m pc ls (.long y :: .long x :: rest)) :=
  W.lcmp hexec hb hd0 (lv_if_gt hexec hb hdg ht (fun q => kt ((lg_cmp_gt x y).mp q)) (fun q => kf (fun z => q ((lg_cmp_gt x y).mpr z))))
theorem ll_le (hexec : p.tables.exec = Jvm.exec) (hb : c.code = cc) {x y : Int64} {off : Int} {tgt : Nat} (hd0 : decode cc pc = .ok (.lcmp, 1)) (hdg : decode cc (pc + 1) = .ok (.ifCond .le off, 3)) (ht : ((pc + 1 : Nat) : Int) + off = (tgt : Int))
    (kt : x ≤ y → W p l e R s m args below meth c H locs cells slots Q (F0 m tgt ls rest)) (kf : ¬ x ≤ y → W p l e R s m args below meth c H locs cells slots Q (F0 m (pc + 1 + 3) ls rest)) : W p l e R s m args below meth c H locs cells slots Q (F0 m pc ls (.long y :: .long x :: rest)) :=
  W.lcmp hexec hb hd0 (lv_if_le hexec hb hdg ht (fun q => kt ((lg_cmp_le x y).mp q)) (fun q => kf (fun z => q ((lg_cmp_le x y).mpr z))))
variable {a q0 : Nat}
theorem w_get {C : String} {T : u_T} {N ci idx : Nat} {fs : List Value} {v : Value} (hF : Fx p s m args c cc nL own K A) (hW : Wd K A s ws H locs) (he : ws[q0]? = some (a, .inr (ci, fs))) (hc : vwCl[ci]? = some (C, T, N)) (hin : ∀ w ∈ u_ws C T N, w ∈ TT) (k : Nat) (hk : k < N)
    (hlink : Cond.fieldLink own idx (T k).1 (T k).2.1 (T k).2.2.1 ∈ TT) (hv : fs[k]? = some v) (hdg : decode cc pc = .ok (.getfield idx, 3))
    (kk : W p l e R s m args below meth c H locs cells slots Q (F0 m (pc + 3) ls (v :: rest))) : W p l e R s m args below meth c H locs cells slots Q (F0 m pc ls (.ref a :: rest)) :=
  va_get hF.1 hF.2.1 hF.2.2.1 hin hF.2.2.2.1 hF.2.2.2.2.1.1 hW.1 q0 he hc k hk (hF.2.2.1 _ hlink) (fun _ h => h) hv hdg kk
theorem w_put {C : String} {T : u_T} {N ci idx : Nat} {fs : List Value} {v : Value} {ty : FieldType} (hF : Fx p s m args c cc nL own K A) (hW : Wd K A s ws H locs) (he : ws[q0]? = some (a, .inr (ci, fs))) (hc : vwCl[ci]? = some (C, T, N)) (hin : ∀ w ∈ u_ws C T N, w ∈ TT)
    (ty0 : Nat → FieldType) (hty : ∀ k, k < N → parseFieldDescriptor (T k).2.2.1 = some (ty0 k)) (hnm : ∀ a, a < N → ∀ b, b < N → a ≠ b → (T a).2.1 ≠ (T b).2.1) (k : Nat) (hk : k < N)
    (hlink : Cond.fieldLink own idx (T k).1 (T k).2.1 (T k).2.2.1 ∈ TT) (hfin : (T k).2.2.2 = false) (hd : parseFieldDescriptor (T k).2.2.1 = some ty) (hn : narrow ty v = v) (hfit : fits ty v = true) (hl : k < fs.length) (hws : ws.set q0 (a, .inr (ci, fs.set k v)) = ws1) (hdg : decode cc pc = .ok (.putfield idx, 3))
    (kk : ∀ (H1 : Heap) (locs1 : List Loc), Wd K A s ws1 H1 locs1 → W p l e R s m args below meth c H1 locs1 cells slots Q (F0 m (pc + 3) ls rest)) : W p l e R s m args below meth c H locs cells slots Q (F0 m pc ls (v :: .ref a :: rest)) := by
  subst hws
  exact va_put hF.1 hF.2.1 hF.2.2.1 hin ty0 hty hnm hF.2.2.2.1 hF.2.2.2.2.1.1 hW.1 hW.2.1 hW.2.2 q0 he hc k hk (hF.2.2.1 _ hlink) (fun _ h => h) hfin hd hn hfit hl hdg (fun H1 l1 a b c => kk H1 l1 ⟨a, b, c⟩)
theorem w_ild {n : Nat} {f : Nat → Int32} {i : Int32} (hF : Fx p s m args c cc nL own K A) (hW : Wd K A s ws H locs) (he : ws[q0]? = some (a, .inl (K.2 0, n, .inl f))) (hin : vp_in i n) (hdg : decode cc pc = .ok (.iaload, 1))
    (kk : W p l e R s m args below meth c H locs cells slots Q (F0 m (pc + 1) ls (.int (f i.toNatClampNeg) :: rest))) : W p l e R s m args below meth c H locs cells slots Q (F0 m pc ls (.int i :: .ref a :: rest)) :=
  va_iald hF.1 hF.2.1 hF.2.2.2.2.1.1 hW.1 q0 0 he rfl hin hdg kk
theorem w_lld {n : Nat} {f : Nat → Int64} {i : Int32} (hF : Fx p s m args c cc nL own K A) (hW : Wd K A s ws H locs) (he : ws[q0]? = some (a, .inl (K.2 1, n, .inr (.inl f)))) (hin : vp_in i n) (hdg : decode cc pc = .ok (.laload, 1))
    (kk : W p l e R s m args below meth c H locs cells slots Q (F0 m (pc + 1) ls (.long (f i.toNatClampNeg) :: rest))) : W p l e R s m args below meth c H locs cells slots Q (F0 m pc ls (.int i :: .ref a :: rest)) :=
  va_lald hF.1 hF.2.1 hF.2.2.2.2.1.1 hW.1 q0 1 he rfl hin hdg kk
theorem w_bld {n : Nat} {f : Nat → Int32} {i : Int32} (hF : Fx p s m args c cc nL own K A) (hW : Wd K A s ws H locs) (he : ws[q0]? = some (a, .inl (K.2 2, n, .inl f))) (hin : vp_in i n) (hdg : decode cc pc = .ok (.baload, 1))
    (kk : W p l e R s m args below meth c H locs cells slots Q (F0 m (pc + 1) ls (.int (f i.toNatClampNeg) :: rest))) : W p l e R s m args below meth c H locs cells slots Q (F0 m pc ls (.int i :: .ref a :: rest)) :=
  va_bald hF.1 hF.2.1 hF.2.2.2.2.1.1 hW.1 q0 2 he rfl hin hdg kk
theorem w_ist {n : Nat} {f : Nat → Int32} {i x : Int32} (hF : Fx p s m args c cc nL own K A) (hW : Wd K A s ws H locs) (he : ws[q0]? = some (a, .inl (K.2 0, n, .inl f))) (hin : vp_in i n) (hws : ws.set q0 (a, .inl (K.2 0, n, .inl (upd f i.toNatClampNeg x))) = ws1) (hdg : decode cc pc = .ok (.iastore, 1))
    (kk : ∀ (H1 : Heap) (locs1 : List Loc), Wd K A s ws1 H1 locs1 → W p l e R s m args below meth c H1 locs1 cells slots Q (F0 m (pc + 1) ls rest)) : W p l e R s m args below meth c H locs cells slots Q (F0 m pc ls (.int x :: .int i :: .ref a :: rest)) := by
  subst hws
  exact va_iast hF.1 hF.2.1 hF.2.2.2.2.1.1 hW.1 hW.2.1 hW.2.2 q0 0 he rfl hin hdg (fun H1 l1 a b c => kk H1 l1 ⟨a, b, c⟩)
theorem w_lst {n : Nat} {f : Nat → Int64} {i : Int32} {x : Int64} (hF : Fx p s m args c cc nL own K A) (hW : Wd K A s ws H locs) (he : ws[q0]? = some (a, .inl (K.2 1, n, .inr (.inl f)))) (hin : vp_in i n) (hws : ws.set q0 (a, .inl (K.2 1, n, .inr (.inl (vp_updL f i.toNatClampNeg x)))) = ws1) (hdg : decode cc pc = .ok (.lastore, 1))
    (kk : ∀ (H1 : Heap) (locs1 : List Loc), Wd K A s ws1 H1 locs1 → W p l e R s m args below meth c H1 locs1 cells slots Q (F0 m (pc + 1) ls rest)) : W p l e R s m args below meth c H locs cells slots Q (F0 m pc ls (.long x :: .int i :: .ref a :: rest)) := by
  subst hws
  exact va_last hF.1 hF.2.1 hF.2.2.2.2.1.1 hW.1 hW.2.1 hW.2.2 q0 1 he rfl hin hdg (fun H1 l1 a b c => kk H1 l1 ⟨a, b, c⟩)
theorem w_bst {n : Nat} {f : Nat → Int32} {i x : Int32} (hF : Fx p s m args c cc nL own K A) (hW : Wd K A s ws H locs) (he : ws[q0]? = some (a, .inl (K.2 2, n, .inl f))) (hin : vp_in i n) (hws : ws.set q0 (a, .inl (K.2 2, n, .inl (upd f i.toNatClampNeg (vp_nar .byte x)))) = ws1) (hdg : decode cc pc = .ok (.bastore, 1))
    (kk : ∀ (H1 : Heap) (locs1 : List Loc), Wd K A s ws1 H1 locs1 → W p l e R s m args below meth c H1 locs1 cells slots Q (F0 m (pc + 1) ls rest)) : W p l e R s m args below meth c H locs cells slots Q (F0 m pc ls (.int x :: .int i :: .ref a :: rest)) := by
  subst hws
  exact va_bast hF.1 hF.2.1 hF.2.2.2.2.1.1 hW.1 hW.2.1 hW.2.2 q0 2 he rfl hin hdg (fun H1 l1 a b c => kk H1 l1 ⟨a, b, c⟩)
theorem w_qld {n : Nat} {f : Nat → Option Nat} {i : Int32} (t0 : Nat) {cA : ClassId} {C : String} (hF : Fx p s m args c cc nL own K A) (hW : Wd K A s ws H locs) (he : ws[q0]? = some (a, .inl (cA, n, .inr (.inr (.inr (.inr f)))))) (ht : (tysK K)[t0]? = some (cA, .object C)) (hin : vp_in i n) (hdg : decode cc pc = .ok (.aaload, 1))
    (kk : W p l e R s m args below meth c H locs cells slots Q (F0 m (pc + 1) ls (va_rf (f i.toNatClampNeg) :: rest))) : W p l e R s m args below meth c H locs cells slots Q (F0 m pc ls (.int i :: .ref a :: rest)) :=
  va_aldq hF.1 hF.2.1 hF.2.2.2.2.1.1 hW.1 q0 t0 he ht hin hdg kk
theorem w_cpyi {q1 a0 n0 n1 : Nat} {idx : Nat} {f g : Nat → Int32} {sp dp n : Int32} (hF : Fx p s m args c cc nL own K A) (hW : Wd K A s ws H locs) (hlink : Cond.methodLink own idx arraycopyName ∈ TT) (hnat : Cond.native arraycopyName ∈ TT) (hstat : Cond.static arraycopyName ∈ TT) (hini : Cond.initialized "java/lang/System" ∈ TT)
    (he : ws[q0]? = some (a0, .inl (K.2 0, n0, .inl f))) (he1 : ws[q1]? = some (a, .inl (K.2 0, n1, .inl g))) (hc : ¬ sp < 0 ∧ ¬ dp < 0 ∧ ¬ n < 0 ∧ sp.toNatClampNeg + n.toNatClampNeg ≤ n0 ∧ dp.toNatClampNeg + n.toNatClampNeg ≤ n1)
    (hws : ws.set q1 (a, .inl (K.2 0, n1, .inl (va_cpy f g sp.toNatClampNeg dp.toNatClampNeg n.toNatClampNeg))) = ws1) (hsz : ls.size = nL) (hfr : 1 ≤ R.frames) (hlo : (rest.map fun v => v.category).sum + (nativeFrameWords "java/lang/System" "arraycopy" 5 + 11) ≤ R.locals) (hdg : decode cc pc = .ok (.invokestatic idx, 3))
    (kk : ∀ (H1 : Heap) (locs1 : List Loc), Wd K A s ws1 H1 locs1 → W p l e R s m args below meth c H1 locs1 cells slots Q (F0 m (pc + 3) ls rest)) : W p l e R s m args below meth c H locs cells slots Q (F0 m pc ls (.int n :: .int dp :: .ref a :: .int sp :: .ref a0 :: rest)) := by
  subst hws
  exact va_copyi hF.1 hF.2.1 (hF.2.2.2.2.2.1.trans hsz.symm) hF.2.2.2.1 (hF.2.2.1 _ hlink) (hF.2.2.1 _ hnat) (hF.2.2.1 _ hstat) (hF.2.2.1 _ hini) hF.2.2.2.2.1.1 hW.1 hW.2.1 hW.2.2 q0 q1 0 0 he he1 rfl rfl rfl hc.1 hc.2.1 hc.2.2.1 hc.2.2.2.1 hc.2.2.2.2 (fun _ _ => rfl) hfr hlo hdg (fun H1 l1 a b c => kk H1 l1 ⟨a, b, c⟩)
theorem w_cpyb {q1 a0 n0 n1 : Nat} {idx : Nat} {f g : Nat → Int32} {sp dp n : Int32} (hF : Fx p s m args c cc nL own K A) (hW : Wd K A s ws H locs) (hlink : Cond.methodLink own idx arraycopyName ∈ TT) (hnat : Cond.native arraycopyName ∈ TT) (hstat : Cond.static arraycopyName ∈ TT) (hini : Cond.initialized "java/lang/System" ∈ TT)
    (he : ws[q0]? = some (a0, .inl (K.2 2, n0, .inl f))) (he1 : ws[q1]? = some (a, .inl (K.2 2, n1, .inl g))) (hc : ¬ sp < 0 ∧ ¬ dp < 0 ∧ ¬ n < 0 ∧ sp.toNatClampNeg + n.toNatClampNeg ≤ n0 ∧ dp.toNatClampNeg + n.toNatClampNeg ≤ n1) (hfit : ∀ i, i < n.toNatClampNeg → fits .byte (.int (f (sp.toNatClampNeg + i))) = true)
    (hws : ws.set q1 (a, .inl (K.2 2, n1, .inl (va_cpy f g sp.toNatClampNeg dp.toNatClampNeg n.toNatClampNeg))) = ws1) (hsz : ls.size = nL) (hfr : 1 ≤ R.frames) (hlo : (rest.map fun v => v.category).sum + (nativeFrameWords "java/lang/System" "arraycopy" 5 + 11) ≤ R.locals) (hdg : decode cc pc = .ok (.invokestatic idx, 3))
    (kk : ∀ (H1 : Heap) (locs1 : List Loc), Wd K A s ws1 H1 locs1 → W p l e R s m args below meth c H1 locs1 cells slots Q (F0 m (pc + 3) ls rest)) : W p l e R s m args below meth c H locs cells slots Q (F0 m pc ls (.int n :: .int dp :: .ref a :: .int sp :: .ref a0 :: rest)) := by
  subst hws
  exact va_copyi hF.1 hF.2.1 (hF.2.2.2.2.2.1.trans hsz.symm) hF.2.2.2.1 (hF.2.2.1 _ hlink) (hF.2.2.1 _ hnat) (hF.2.2.1 _ hstat) (hF.2.2.1 _ hini) hF.2.2.2.2.1.1 hW.1 hW.2.1 hW.2.2 q0 q1 2 2 he he1 rfl rfl rfl hc.1 hc.2.1 hc.2.2.1 hc.2.2.2.1 hc.2.2.2.2 hfit hfr hlo hdg (fun H1 l1 a b c => kk H1 l1 ⟨a, b, c⟩)
theorem w_cpyl {q1 a0 n0 n1 : Nat} {idx : Nat} {f g : Nat → Int64} {sp dp n : Int32} (hF : Fx p s m args c cc nL own K A) (hW : Wd K A s ws H locs) (hlink : Cond.methodLink own idx arraycopyName ∈ TT) (hnat : Cond.native arraycopyName ∈ TT) (hstat : Cond.static arraycopyName ∈ TT) (hini : Cond.initialized "java/lang/System" ∈ TT)
    (he : ws[q0]? = some (a0, .inl (K.2 1, n0, .inr (.inl f)))) (he1 : ws[q1]? = some (a, .inl (K.2 1, n1, .inr (.inl g)))) (hc : ¬ sp < 0 ∧ ¬ dp < 0 ∧ ¬ n < 0 ∧ sp.toNatClampNeg + n.toNatClampNeg ≤ n0 ∧ dp.toNatClampNeg + n.toNatClampNeg ≤ n1)
    (hws : ws.set q1 (a, .inl (K.2 1, n1, .inr (.inl (va_cpy f g sp.toNatClampNeg dp.toNatClampNeg n.toNatClampNeg)))) = ws1) (hsz : ls.size = nL) (hfr : 1 ≤ R.frames) (hlo : (rest.map fun v => v.category).sum + (nativeFrameWords "java/lang/System" "arraycopy" 5 + 11) ≤ R.locals) (hdg : decode cc pc = .ok (.invokestatic idx, 3))
    (kk : ∀ (H1 : Heap) (locs1 : List Loc), Wd K A s ws1 H1 locs1 → W p l e R s m args below meth c H1 locs1 cells slots Q (F0 m (pc + 3) ls rest)) : W p l e R s m args below meth c H locs cells slots Q (F0 m pc ls (.int n :: .int dp :: .ref a :: .int sp :: .ref a0 :: rest)) := by
  subst hws
  exact va_copyl hF.1 hF.2.1 (hF.2.2.2.2.2.1.trans hsz.symm) hF.2.2.2.1 (hF.2.2.1 _ hlink) (hF.2.2.1 _ hnat) (hF.2.2.1 _ hstat) (hF.2.2.1 _ hini) hF.2.2.2.2.1.1 hW.1 hW.2.1 hW.2.2 q0 q1 1 1 he he1 rfl rfl rfl hc.1 hc.2.1 hc.2.2.1 hc.2.2.2.1 hc.2.2.2.2 (fun _ _ => rfl) hfr hlo hdg (fun H1 l1 a b c => kk H1 l1 ⟨a, b, c⟩)
end
