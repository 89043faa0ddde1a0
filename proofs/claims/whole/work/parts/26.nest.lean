/-! a call of a nest mate's private static method -/
def mwSN (own : String) (idx : Nat) (y : MethodName) (host : String) (bytes : ByteArray) (maxL : Nat) (ret : Option FieldType) (n : Nat) : Prop :=
  (Cond.methodLinkNest own idx y host ∈ nestW ∧ Cond.static y ∈ TT ∧ Cond.initialized y.cls ∈ TT ∧ Cond.code y bytes maxL ret ∈ TT) ∧ y.cls ≠ "java/lang/invoke/MethodHandle" ∧ y.cls ≠ "java/lang/invoke/VarHandle" ∧ (parseMethodDescriptor y.desc).map (fun d => d.parameters.length) = some n
theorem mn_X3_83 : mwSN RX3 83 yX11_rowNumberFits "LoopLoom" cX11_rowNumberFits 1 (some .boolean) 1 := ⟨⟨by decide +kernel, st_X11_rowNumberFits, in_X11, cd_X11_rowNumberFits⟩, hd_X11_rowNumberFits⟩
section
variable {p : Program} {l : Launch} {e : Env} {R : Room} {s : State} {m : MethodId} {args : Array Value} {below : List Frame} {meth : Method} {c : Code} {H : Heap} {locs : List Loc} {cells slots : Nat} {Q : State → Prop} {cc : ByteArray} {nL : Nat} {own : String} {K : Kx} {A : Nat → Prop} {pc : Nat} {ls : Array Slot} {rest : List Value} {ws : va_W} {ws' : (Nat → Nat) → va_W}
variable {y : MethodName} {bytes : ByteArray} {maxL idx n : Nat} {rm : Room} {C : String} {As : List Value} {st : List Value} {ret : Option FieldType} {b : Nat} {host : String}
theorem cSN_i {r0 : Int32} (hF : Fx p s m args c cc nL own K A) (hW : Wd K A s ws H locs) (mw : mwSN own idx y host bytes maxL ret n) (hM : CMi l y bytes maxL ret rm K As ws ws' r0)
    (hR : rm.frames + 1 ≤ R.frames ∧ 8 + (maxL + 11) + rm.locals ≤ R.locals)
    (hn : As.length = n) (hsz : ls.size = nL) (hst : st = As.reverse ++ rest) (hrm : (rest.map fun v => v.category).sum ≤ 8) (hdg : decode cc pc = .ok (.invokestatic idx, 3)) (hce : cells + rm.cells ≤ R.cells ∧ slots + rm.slots ≤ R.slots)
    (kk : ∀ (u : Nat → Nat) (H1 : Heap) (locs1 : List Loc), Wd K A s (ws' u) H1 locs1 → W p l e R s m args below meth c H1 locs1 (cells + rm.cells) (slots + rm.slots) Q (F0 m (pc + 3) ls (.int r0 :: rest))) :
    W p l e R s m args below meth c H locs cells slots Q (F0 m pc ls st) := by
  subst hst
  have hf := wd_free hF hW
  obtain ⟨⟨h1, h2, h3, h4⟩, hd⟩ := mw
  refine va_calli (va_runSN (As := As) (rest := rest) ⟨hF.1, hF.2.1, hF.2.2.2.2.2.1, hF.2.2.2.1, hF.2.2.1⟩ (hM H.size) ⟨va_cnB n hF.2.2.1 (good_M h4) rfl rfl rfl (hF.2.2.2.2.1.2.1 _ h1) (hF.2.2.1 _ h3) hd hR, hF.2.2.1 _ h2, trivial⟩ ⟨PreW.blind, wd_pre hF hW⟩ rfl hn hsz rfl (lv_room hrm) hdg hce) hW.2.2 (fun q _ h => hf q h) hf (fun r u t H1 locs1 ht hvm hw hB hz hk hS => ?_)
  subst hw
  exact kk u H1 locs1 (wd_post hF hW ht hB hS)
end
