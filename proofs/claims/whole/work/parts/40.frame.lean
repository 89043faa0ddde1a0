/-! two worlds side by side: a call that touches the one alone -/
theorem wd_left {K : Kx} {A : Nat → Prop} {s : State} {w1 w2 : va_W} {H : Heap} {locs : List Loc} (h : Wd K A s (w1 ++ w2) H locs) : Wd K A s w1 H locs := by
  have hi : ∀ (k : Nat) (q : Nat × va_E), w1[k]? = some q → (w1 ++ w2)[k]? = some q := fun k q hk => by
    have hl : k < w1.length := (List.getElem?_eq_some_iff.mp hk).1
    rw [List.getElem?_append_left hl]; exact hk
  exact ⟨fun k q hk => h.1 k q (hi k q hk), ⟨fun i j p q h1 h2 e => h.2.1.1 i j p q (hi i p h1) (hi j q h2) e, fun k q hk => h.2.1.2 k q (hi k q hk)⟩, h.2.2⟩
theorem wd_comm {K : Kx} {A : Nat → Prop} {s : State} {w1 w2 : va_W} {H : Heap} {locs : List Loc} (h : Wd K A s (w1 ++ w2) H locs) : Wd K A s (w2 ++ w1) H locs := by
  have h1 : va_P K.1 vwCl (([] ++ w1) ++ w2) H := h.1
  have h2 : va_D A (([] ++ w1) ++ w2) := h.2.1
  exact ⟨h1.swap, h2.swap, h.2.2⟩
theorem wd_apart {K : Kx} {A : Nat → Prop} {s : State} {w1 w2 : va_W} {H : Heap} {locs : List Loc} (h : Wd K A s (w1 ++ w2) H locs) {j : Nat} {q : Nat × va_E} (hq : w2[j]? = some q) : ¬ va_A w1 H.size q.1 := by
  have hi : (w1 ++ w2)[w1.length + j]? = some q := by
    rw [List.getElem?_append_right (by omega), show w1.length + j - w1.length = j by omega]; exact hq
  rintro (⟨k, e, hk⟩ | hk)
  · have hl : k < w1.length := (List.getElem?_eq_some_iff.mp hk).1
    have hk2 : (w1 ++ w2)[k]? = some (q.1, e) := by rw [List.getElem?_append_left hl]; exact hk
    have := h.2.1.1 k (w1.length + j) (q.1, e) q hk2 hi rfl
    omega
  · have := (h.1 _ q hi).lt
    omega
theorem wd_frame {K : Kx} {A : Nat → Prop} {s t : State} {w1 w1' w2 : va_W} {H H1 : Heap} {locs locs1 : List Loc} (h : Wd K A s (w1 ++ w2) H locs) (hfree : ∀ q, va_A w1 H.size q → A q) (ht : t.heap = H1) (hB : PostW K (va_A w1 H.size) w1' t) (hk : ∀ q : Nat, q < H.size → ¬ va_A w1 H.size q → H1[q]? = H[q]?) (hS : va_S A s.heap H1 locs1) : Wd K A s (w1' ++ w2) H1 locs1 := by
  have hr := wd_left (wd_comm h)
  refine ⟨va_P.app (by rw [← ht]; exact hB.1) (hr.1.kept (fun k q hq => hk q.1 (hr.1 k q hq).lt (wd_apart h hq))), va_D.app (hB.2.weaken (fun _ q _ hq => hfree q.1 hq)) hr.2.1 (fun i j p q hp hq e => ?_), hS⟩
  exact wd_apart h hq (e ▸ hB.2.2 i p hp)
section
variable {p : Program} {l : Launch} {e : Env} {R : Room} {s : State} {m : MethodId} {args : Array Value} {below : List Frame} {meth : Method} {c : Code} {H : Heap} {locs : List Loc} {cells slots : Nat} {Q : State → Prop} {cc : ByteArray} {nL : Nat} {own : String} {K : Kx} {A : Nat → Prop} {pc : Nat} {ls : Array Slot} {rest : List Value} {ws w2 : va_W} {ws' : (Nat → Nat) → va_W}
variable {y : MethodName} {bytes : ByteArray} {maxL idx n : Nat} {rm : Room} {C : String} {As : List Value} {st : List Value} {ret : Option FieldType} {b : Nat}
theorem cVf_i {r0 : Int32} (hF : Fx p s m args c cc nL own K A) (hW : Wd K A s (ws ++ w2) H locs) (mw : mwV own idx C y bytes maxL ret n) (hM : CMi l y bytes maxL ret rm K (.ref b :: As) ws ws' r0)
    (hR : rm.frames + 1 ≤ R.frames ∧ 8 + (maxL + 11) + rm.locals ≤ R.locals) {ci q0 : Nat} {q : vw_C} {fs : List Value} (hc : vwCl[ci]? = some q) (hC : q.1 = C) (he : ws[q0]? = some (b, .inr (ci, fs)))
    (hn : As.length = n) (hsz : ls.size = nL) (hst : st = As.reverse ++ .ref b :: rest) (hrm : (rest.map fun v => v.category).sum ≤ 8) (hdg : decode cc pc = .ok (.invokevirtual idx, 3)) (hce : cells + rm.cells ≤ R.cells ∧ slots + rm.slots ≤ R.slots)
    (kk : ∀ (u : Nat → Nat) (H1 : Heap) (locs1 : List Loc), Wd K A s (ws' u ++ w2) H1 locs1 → W p l e R s m args below meth c H1 locs1 (cells + rm.cells) (slots + rm.slots) Q (F0 m (pc + 3) ls (.int r0 :: rest))) :
    W p l e R s m args below meth c H locs cells slots Q (F0 m pc ls st) := by
  subst hst; subst hC
  have hW1 := wd_left hW
  have hf := wd_free hF hW1
  refine va_calli (va_runV (As := As) (rest := rest) ⟨hF.1, hF.2.1, hF.2.2.2.2.2.1, hF.2.2.2.1, hF.2.2.1⟩ (hM H.size) (cw_V hF mw hR) ⟨PreW.blind, va_recv hF.2.2.2.2.1.1 hW1.1 hc he, wd_pre hF hW1⟩ rfl hn hsz rfl (lv_room hrm) hdg hce) hW.2.2 (fun q _ h => hf q h) hf (fun r u t H1 locs1 ht hvm hw hB hz hk hS => ?_)
  subst hw
  exact kk u H1 locs1 (wd_frame hW hf ht hB hk hS)
theorem cVf_l {r0 : Int64} (hF : Fx p s m args c cc nL own K A) (hW : Wd K A s (ws ++ w2) H locs) (mw : mwV own idx C y bytes maxL (some .long) n) (hM : CMl l y bytes maxL rm K (.ref b :: As) ws ws' r0)
    (hR : rm.frames + 1 ≤ R.frames ∧ 8 + (maxL + 11) + rm.locals ≤ R.locals) {ci q0 : Nat} {q : vw_C} {fs : List Value} (hc : vwCl[ci]? = some q) (hC : q.1 = C) (he : ws[q0]? = some (b, .inr (ci, fs)))
    (hn : As.length = n) (hsz : ls.size = nL) (hst : st = As.reverse ++ .ref b :: rest) (hrm : (rest.map fun v => v.category).sum ≤ 8) (hdg : decode cc pc = .ok (.invokevirtual idx, 3)) (hce : cells + rm.cells ≤ R.cells ∧ slots + rm.slots ≤ R.slots)
    (kk : ∀ (u : Nat → Nat) (H1 : Heap) (locs1 : List Loc), Wd K A s (ws' u ++ w2) H1 locs1 → W p l e R s m args below meth c H1 locs1 (cells + rm.cells) (slots + rm.slots) Q (F0 m (pc + 3) ls (.long r0 :: rest))) :
    W p l e R s m args below meth c H locs cells slots Q (F0 m pc ls st) := by
  subst hst; subst hC
  have hW1 := wd_left hW
  have hf := wd_free hF hW1
  refine va_calll (va_runV (As := As) (rest := rest) ⟨hF.1, hF.2.1, hF.2.2.2.2.2.1, hF.2.2.2.1, hF.2.2.1⟩ (hM H.size) (cw_V hF mw hR) ⟨PreW.blind, va_recv hF.2.2.2.2.1.1 hW1.1 hc he, wd_pre hF hW1⟩ rfl hn hsz rfl (lv_room hrm) hdg hce) hW.2.2 (fun q _ h => hf q h) hf (fun r u t H1 locs1 ht hvm hw hB hz hk hS => ?_)
  subst hw
  exact kk u H1 locs1 (wd_frame hW hf ht hB hk hS)
end
