/-! racks and kept sheets: cells that come and are many -/
theorem fm_congr {g h : Nat → va_W} : ∀ (n : Nat), (∀ j, j < n → g j = h j) → (List.range n).flatMap g = (List.range n).flatMap h
  | 0, _ => rfl
  | n + 1, hh => by
    rw [List.range_succ, List.flatMap_append, List.flatMap_append, fm_congr n (fun j hj => hh j (by omega))]
    simp [hh n (by omega)]
theorem fm_len {g : Nat → va_W} (h3 : ∀ i, (g i).length = 3) : ∀ n : Nat, ((List.range n).flatMap g).length = 3 * n
  | 0 => rfl
  | n + 1 => by
    rw [List.range_succ, List.flatMap_append, List.length_append, fm_len h3 n]
    simp [h3 n]; omega
theorem fm_get {g : Nat → va_W} (h3 : ∀ i, (g i).length = 3) {i r : Nat} {x : Nat × va_E} (hr : r < 3) (hx : (g i)[r]? = some x) : ∀ n : Nat, i < n → ((List.range n).flatMap g)[3 * i + r]? = some x
  | 0, h => absurd h (by omega)
  | n + 1, h => by
    rw [List.range_succ, List.flatMap_append]
    by_cases hi : i < n
    · rw [List.getElem?_append_left (by rw [fm_len h3]; omega)]
      exact fm_get h3 hr hx n hi
    · have hi : i = n := by omega
      subst hi
      rw [List.getElem?_append_right (by rw [fm_len h3]; omega), fm_len h3, show 3 * i + r - 3 * i = r by omega]
      simpa using hx
theorem fm_set {g : Nat → va_W} (h3 : ∀ i, (g i).length = 3) {i r : Nat} {y : Nat × va_E} (hr : r < 3) : ∀ n : Nat, i < n → ((List.range n).flatMap g).set (3 * i + r) y = (List.range n).flatMap (va_up g i ((g i).set r y))
  | 0, h => absurd h (by omega)
  | n + 1, h => by
    rw [List.range_succ, List.flatMap_append, List.flatMap_append]
    by_cases hi : i < n
    · rw [List.set_append_left _ _ (by rw [fm_len h3]; omega), fm_set h3 hr n hi]
      simp [va_up, show ¬ n = i by omega]
    · have hi : i = n := by omega
      subst hi
      rw [List.set_append_right _ _ (by rw [fm_len h3]; omega), fm_len h3, show 3 * i + r - 3 * i = r by omega]
      rw [fm_congr i (g := va_up g i ((g i).set r y)) (h := g) (fun j hj => va_up_ne _ _ (by omega))]
      simp [va_up]
theorem wSt_len (K : Kx) (a d : Nat → Nat) (M : Mem) : (wSt K a d M).length = 69 := rfl
theorem wRk_len (K : Kx) (d : Nat → Nat) (M : Mem) : (wRk K d M).length = 3 * M.2.2.2.2.2 0 := fm_len (fun _ => rfl) _
theorem wKt_len (K : Kx) (d : Nat → Nat) (M : Mem) : (wKt K d M).length = 3 * M.2.2.2.2.2 1 := fm_len (fun _ => rfl) _
theorem wC_getR {K : Kx} {a d : Nat → Nat} {M : Mem} {i r : Nat} {x : Nat × va_E} (hi : i < M.2.2.2.2.2 0) (hr : r < 3) (hx : (rkC K d M i)[r]? = some x) : (wC K a d M)[69 + (3 * i + r)]? = some x := by
  unfold wC
  rw [List.getElem?_append_left (by rw [List.length_append, wSt_len, wRk_len]; omega), List.getElem?_append_right (by rw [wSt_len]; omega), wSt_len, show 69 + (3 * i + r) - 69 = 3 * i + r by omega]
  exact fm_get (fun _ => rfl) hr hx _ hi
theorem wC_getK {K : Kx} {a d : Nat → Nat} {M : Mem} {i r : Nat} {x : Nat × va_E} (hi : i < M.2.2.2.2.2 1) (hr : r < 3) (hx : (ktC K d M i)[r]? = some x) : (wC K a d M)[69 + 3 * M.2.2.2.2.2 0 + (3 * i + r)]? = some x := by
  unfold wC
  rw [List.getElem?_append_right (by rw [List.length_append, wSt_len, wRk_len]; omega), List.length_append, wSt_len, wRk_len, show 69 + 3 * M.2.2.2.2.2 0 + (3 * i + r) - (69 + 3 * M.2.2.2.2.2 0) = 3 * i + r by omega]
  exact fm_get (fun _ => rfl) hr hx _ hi
theorem wC_setR {K : Kx} {a d : Nat → Nat} {M : Mem} {i r : Nat} {y : Nat × va_E} (hi : i < M.2.2.2.2.2 0) (hr : r < 3) : (wC K a d M).set (69 + (3 * i + r)) y = (wSt K a d M ++ (List.range (M.2.2.2.2.2 0)).flatMap (va_up (rkC K d M) i ((rkC K d M i).set r y))) ++ wKt K d M := by
  unfold wC
  rw [List.set_append_left _ _ (by rw [List.length_append, wSt_len, wRk_len]; omega), List.set_append_right _ _ (by rw [wSt_len]; omega), wSt_len, show 69 + (3 * i + r) - 69 = 3 * i + r by omega]
  unfold wRk
  rw [fm_set (fun _ => rfl) hr _ hi]
theorem wC_setK {K : Kx} {a d : Nat → Nat} {M : Mem} {i r : Nat} {y : Nat × va_E} (hi : i < M.2.2.2.2.2 1) (hr : r < 3) : (wC K a d M).set (69 + 3 * M.2.2.2.2.2 0 + (3 * i + r)) y = (wSt K a d M ++ wRk K d M) ++ (List.range (M.2.2.2.2.2 1)).flatMap (va_up (ktC K d M) i ((ktC K d M i).set r y)) := by
  unfold wC
  rw [List.set_append_right _ _ (by rw [List.length_append, wSt_len, wRk_len]; omega), List.length_append, wSt_len, wRk_len, show 69 + 3 * M.2.2.2.2.2 0 + (3 * i + r) - (69 + 3 * M.2.2.2.2.2 0) = 3 * i + r by omega]
  unfold wKt
  rw [fm_set (fun _ => rfl) hr _ hi]
def tIf (M : Mem) (c : Nat) (f : Nat → Int32) : Mem := (M.1, M.2.1, M.2.2.1, va_up M.2.2.2.1 c f, M.2.2.2.2)
def tLf (M : Mem) (c : Nat) (f : Nat → Int64) : Mem := (M.1, M.2.1, M.2.2.1, M.2.2.2.1, va_up M.2.2.2.2.1 c f, M.2.2.2.2.2)
section
variable (K : Kx) (a d : Nat → Nat) (M : Mem) (i : Nat)
theorem pR_0 (hi : i < M.2.2.2.2.2 0) : (wC K a d M)[69 + (3 * i + 0)]? = some (d (6 * i), .inr (5, [.int (M.2.2.2.1 (4 * i) 0), .ref (d (6 * i + 1)), .ref (d (6 * i + 2))])) := wC_getR hi (by omega) rfl
theorem pR_1 (hi : i < M.2.2.2.2.2 0) : (wC K a d M)[69 + (3 * i + 1)]? = some (d (6 * i + 1), .inl (K.2 0, M.2.2.2.2.2 (i + 2), .inl (M.2.2.2.1 (4 * i + 1)))) := wC_getR hi (by omega) rfl
theorem pR_2 (hi : i < M.2.2.2.2.2 0) : (wC K a d M)[69 + (3 * i + 2)]? = some (d (6 * i + 2), .inl (K.2 1, M.2.2.2.2.2 (i + 2) * 20, .inr (.inl (M.2.2.2.2.1 i)))) := wC_getR hi (by omega) rfl
theorem pK_0 (hi : i < M.2.2.2.2.2 1) : (wC K a d M)[69 + 3 * M.2.2.2.2.2 0 + (3 * i + 0)]? = some (d (6 * i + 3), .inr (7, [.ref (d (6 * i + 4)), .ref (d (6 * i + 5))])) := wC_getK hi (by omega) rfl
theorem pK_1 (hi : i < M.2.2.2.2.2 1) : (wC K a d M)[69 + 3 * M.2.2.2.2.2 0 + (3 * i + 1)]? = some (d (6 * i + 4), .inl (K.2 0, 1344, .inl (M.2.2.2.1 (4 * i + 2)))) := wC_getK hi (by omega) rfl
theorem pK_2 (hi : i < M.2.2.2.2.2 1) : (wC K a d M)[69 + 3 * M.2.2.2.2.2 0 + (3 * i + 2)]? = some (d (6 * i + 5), .inl (K.2 0, 12, .inl (M.2.2.2.1 (4 * i + 3)))) := wC_getK hi (by omega) rfl
theorem vR_1 (f : Nat → Int32) (hi : i < M.2.2.2.2.2 0) : (wC K a d M).set (69 + (3 * i + 1)) (d (6 * i + 1), .inl (K.2 0, M.2.2.2.2.2 (i + 2), .inl f)) = wC K a d (tIf M (4 * i + 1) f) := by
  rw [wC_setR hi (by omega)]
  show (_ ++ _) ++ _ = (wSt K a d (tIf M (4 * i + 1) f) ++ wRk K d (tIf M (4 * i + 1) f)) ++ wKt K d (tIf M (4 * i + 1) f)
  congr 1
  · congr 1
    refine fm_congr _ (fun j hj => ?_)
    by_cases h : j = i
    · subst h
      rw [va_up_self]
      simp only [rkC, tIf, List.set, va_up_self, va_up_ne M.2.2.2.1 f (show 4 * j ≠ 4 * j + 1 by omega)]
    · rw [va_up_ne _ _ h]
      simp only [rkC, tIf, va_up_ne M.2.2.2.1 f (show 4 * j ≠ 4 * i + 1 by omega), va_up_ne M.2.2.2.1 f (show 4 * j + 1 ≠ 4 * i + 1 by omega)]
  · refine fm_congr _ (fun j hj => ?_)
    simp only [ktC, tIf, va_up_ne M.2.2.2.1 f (show 4 * j + 2 ≠ 4 * i + 1 by omega), va_up_ne M.2.2.2.1 f (show 4 * j + 3 ≠ 4 * i + 1 by omega)]
theorem vR_2 (f : Nat → Int64) (hi : i < M.2.2.2.2.2 0) : (wC K a d M).set (69 + (3 * i + 2)) (d (6 * i + 2), .inl (K.2 1, M.2.2.2.2.2 (i + 2) * 20, .inr (.inl f))) = wC K a d (tLf M i f) := by
  rw [wC_setR hi (by omega)]
  show (_ ++ _) ++ _ = (wSt K a d (tLf M i f) ++ wRk K d (tLf M i f)) ++ wKt K d (tLf M i f)
  congr 1
  · congr 1
    refine fm_congr _ (fun j hj => ?_)
    by_cases h : j = i
    · subst h
      rw [va_up_self]
      simp [rkC, tLf, va_up]
    · rw [va_up_ne _ _ h]
      simp [rkC, tLf, va_up, h]
theorem vK_1 (f : Nat → Int32) (hi : i < M.2.2.2.2.2 1) : (wC K a d M).set (69 + 3 * M.2.2.2.2.2 0 + (3 * i + 1)) (d (6 * i + 4), .inl (K.2 0, 1344, .inl f)) = wC K a d (tIf M (4 * i + 2) f) := by
  rw [wC_setK hi (by omega)]
  show (_ ++ _) ++ _ = (wSt K a d (tIf M (4 * i + 2) f) ++ wRk K d (tIf M (4 * i + 2) f)) ++ wKt K d (tIf M (4 * i + 2) f)
  congr 1
  · congr 1
    refine fm_congr _ (fun j hj => ?_)
    simp only [rkC, tIf, va_up_ne M.2.2.2.1 f (show 4 * j ≠ 4 * i + 2 by omega), va_up_ne M.2.2.2.1 f (show 4 * j + 1 ≠ 4 * i + 2 by omega)]
  · refine fm_congr _ (fun j hj => ?_)
    by_cases h : j = i
    · subst h
      rw [va_up_self]
      simp only [ktC, tIf, List.set, va_up_self, va_up_ne M.2.2.2.1 f (show 4 * j + 3 ≠ 4 * j + 2 by omega)]
    · rw [va_up_ne _ _ h]
      simp only [ktC, tIf, va_up_ne M.2.2.2.1 f (show 4 * j + 2 ≠ 4 * i + 2 by omega), va_up_ne M.2.2.2.1 f (show 4 * j + 3 ≠ 4 * i + 2 by omega)]
theorem vK_2 (f : Nat → Int32) (hi : i < M.2.2.2.2.2 1) : (wC K a d M).set (69 + 3 * M.2.2.2.2.2 0 + (3 * i + 2)) (d (6 * i + 5), .inl (K.2 0, 12, .inl f)) = wC K a d (tIf M (4 * i + 3) f) := by
  rw [wC_setK hi (by omega)]
  show (_ ++ _) ++ _ = (wSt K a d (tIf M (4 * i + 3) f) ++ wRk K d (tIf M (4 * i + 3) f)) ++ wKt K d (tIf M (4 * i + 3) f)
  congr 1
  · congr 1
    refine fm_congr _ (fun j hj => ?_)
    simp only [rkC, tIf, va_up_ne M.2.2.2.1 f (show 4 * j ≠ 4 * i + 3 by omega), va_up_ne M.2.2.2.1 f (show 4 * j + 1 ≠ 4 * i + 3 by omega)]
  · refine fm_congr _ (fun j hj => ?_)
    by_cases h : j = i
    · subst h
      rw [va_up_self]
      simp only [ktC, tIf, List.set, va_up_self, va_up_ne M.2.2.2.1 f (show 4 * j + 2 ≠ 4 * j + 3 by omega)]
    · rw [va_up_ne _ _ h]
      simp only [ktC, tIf, va_up_ne M.2.2.2.1 f (show 4 * j + 2 ≠ 4 * i + 3 by omega), va_up_ne M.2.2.2.1 f (show 4 * j + 3 ≠ 4 * i + 3 by omega)]
theorem uR_1 (k : Nat) (x : Int32) (hi : i < M.2.2.2.2.2 0) : (wC K a d M).set (69 + (3 * i + 1)) (d (6 * i + 1), .inl (K.2 0, M.2.2.2.2.2 (i + 2), .inl (upd (M.2.2.2.1 (4 * i + 1)) k x))) = wC K a d (tI M (4 * i + 1) k x) := vR_1 K a d M i _ hi
theorem uR_2 (k : Nat) (x : Int64) (hi : i < M.2.2.2.2.2 0) : (wC K a d M).set (69 + (3 * i + 2)) (d (6 * i + 2), .inl (K.2 1, M.2.2.2.2.2 (i + 2) * 20, .inr (.inl (vp_updL (M.2.2.2.2.1 i) k x)))) = wC K a d (tL M i k x) := vR_2 K a d M i _ hi
end
theorem oq_none {α : Type} {x : Option Nat} {a r : Option α} {k : Nat → Option α} (hx : x = none) (h : oq x a k = r) : a = r := by subst hx; exact h
theorem oq_some {α : Type} {x : Option Nat} {a r : Option α} {k : Nat → Option α} {j : Nat} (hx : x = some j) (h : oq x a k = r) : k j = r := by subst hx; exact h
section
variable {p : Program} {l : Launch} {e : Env} {R : Room} {s : State} {m : MethodId} {args : Array Value} {below : List Frame} {meth : Method} {c : Code} {H : Heap} {locs : List Loc} {cells slots : Nat} {Q : State → Prop} {cc : ByteArray} {nL : Nat} {own : String} {K : Kx} {A : Nat → Prop} {pc : Nat} {ls : Array Slot} {rest : List Value} {ws ws1 : va_W} {a q0 : Nat}
theorem w_qld2 {n : Nat} {f : Nat → Option Nat} {g : Nat → Nat} {o : Option Nat} {i : Int32} (t0 : Nat) {cA : ClassId} {C : String} (hF : Fx p s m args c cc nL own K A) (hW : Wd K A s ws H locs) (he : ws[q0]? = some (a, .inl (cA, n, .inr (.inr (.inr (.inr f)))))) (ht : (tysK K)[t0]? = some (cA, .object C)) (hin : vp_in i n) (hf : f i.toNatClampNeg = o.map g) (hdg : decode cc pc = .ok (.aaload, 1))
    (kn : o = none → W p l e R s m args below meth c H locs cells slots Q (F0 m (pc + 1) ls (.null :: rest))) (ks : ∀ j : Nat, o = some j → W p l e R s m args below meth c H locs cells slots Q (F0 m (pc + 1) ls (.ref (g j) :: rest))) : W p l e R s m args below meth c H locs cells slots Q (F0 m pc ls (.int i :: .ref a :: rest)) := by
  refine w_qld t0 hF hW he ht hin hdg ?_
  rw [hf]
  cases o with
  | none => exact kn rfl
  | some j => exact ks j rfl
theorem q_split {o : Option Nat} {g : Nat → Nat} (kn : o = none → W p l e R s m args below meth c H locs cells slots Q (F0 m pc ls (.null :: rest))) (ks : ∀ j : Nat, o = some j → W p l e R s m args below meth c H locs cells slots Q (F0 m pc ls (.ref (g j) :: rest))) : W p l e R s m args below meth c H locs cells slots Q (F0 m pc ls (va_rf (o.map g) :: rest)) := by
  cases o with
  | none => exact kn rfl
  | some j => exact ks j rfl
theorem w_alen {x : vp_A} {ty : FieldType} {v : Int32} {cA : ClassId} (t0 : Nat) (hF : Fx p s m args c cc nL own K A) (hW : Wd K A s ws H locs) (he : ws[q0]? = some (a, .inl (cA, x))) (ht : (tysK K)[t0]? = some (cA, ty)) (hv : Int32.ofNat x.1 = v) (hdg : decode cc pc = .ok (.arraylength, 1))
    (kk : W p l e R s m args below meth c H locs cells slots Q (F0 m (pc + 1) ls (.int v :: rest))) : W p l e R s m args below meth c H locs cells slots Q (F0 m pc ls (.ref a :: rest)) :=
  va_alen hF.1 hF.2.1 hF.2.2.2.2.1.1 hW.1 q0 t0 he ht hv hdg kk
end
