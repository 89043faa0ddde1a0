/-! new racks and new kept sheets come into the world -/
noncomputable def cP {α : Type} (P : Prop) (k : Option α) : Option α := @ite _ P (Classical.propDecidable P) k none
theorem cP_some {α : Type} {P : Prop} {k : Option α} {r : α} (h : cP P k = some r) : P ∧ k = some r := by
  unfold cP at h
  by_cases q : P
  · rw [if_pos q] at h; exact ⟨q, h⟩
  · rw [if_neg q] at h; cases h
def nKt (M : Mem) : Mem := (M.1, M.2.1, M.2.2.1, va_up (va_up M.2.2.2.1 (4 * M.2.2.2.2.2 1 + 2) (fun _ => 0)) (4 * M.2.2.2.2.2 1 + 3) (fun _ => 0), M.2.2.2.2.1, va_up M.2.2.2.2.2 1 (M.2.2.2.2.2 1 + 1))
def nRk (M : Mem) (x : Int32) (N : Nat) : Mem := (M.1, M.2.1, M.2.2.1, va_up (va_up M.2.2.2.1 (4 * M.2.2.2.2.2 0) (fun _ => x)) (4 * M.2.2.2.2.2 0 + 1) (fl_ (fun _ => 0) 0 N (-1)), va_up M.2.2.2.2.1 (M.2.2.2.2.2 0) (fun _ => 0), va_up (va_up M.2.2.2.2.2 0 (M.2.2.2.2.2 0 + 1)) (M.2.2.2.2.2 0 + 2) N)
theorem wSt_congr {K : Kx} {a d d' : Nat → Nat} {M M' : Mem} (h1 : M'.1 = M.1) (h2 : M'.2.1 = M.2.1) (h3 : M'.2.2.1 = M.2.2.1) (h25 : (fun k => (M.2.2.1 25 k).map (fun i => d' (6 * i))) = (fun k => (M.2.2.1 25 k).map (fun i => d (6 * i)))) (h33 : (fun k => (M.2.2.1 33 k).map (fun i => d' (6 * i + 3))) = (fun k => (M.2.2.1 33 k).map (fun i => d (6 * i + 3)))) : wSt K a d' M' = wSt K a d M := by
  unfold wSt
  rw [h1, h2, h3, h25, h33]
theorem map_congr_ne {o : Option Nat} {f g : Nat → Nat} {n : Nat} (ho : o ≠ some n) (h : ∀ i, i ≠ n → f i = g i) : o.map f = o.map g := by
  cases o with
  | none => rfl
  | some j =>
    have : j ≠ n := fun z => ho (by rw [z])
    simp [h j this]
theorem push_K {K : Kx} {a d : Nat → Nat} {M : Mem} (q u0 u1 : Nat) (hfree : ∀ k, M.2.2.1 33 k ≠ some (M.2.2.2.2.2 1)) :
    wC K a d M ++ [(q, .inr (7, [.ref u0, .ref u1])), (u0, .inl (K.2 0, 1344, .inl (fun _ => 0))), (u1, .inl (K.2 0, 12, .inl (fun _ => 0)))] = wC K a (va_up (va_up (va_up d (6 * M.2.2.2.2.2 1 + 3) q) (6 * M.2.2.2.2.2 1 + 4) u0) (6 * M.2.2.2.2.2 1 + 5) u1) (nKt M) := by
  obtain ⟨n, hn⟩ : ∃ z, z = M.2.2.2.2.2 1 := ⟨_, rfl⟩
  obtain ⟨d', hd'⟩ : ∃ z, z = va_up (va_up (va_up d (6 * M.2.2.2.2.2 1 + 3) q) (6 * M.2.2.2.2.2 1 + 4) u0) (6 * M.2.2.2.2.2 1 + 5) u1 := ⟨_, rfl⟩
  have hne : ∀ x, x ≠ 6 * n + 3 → x ≠ 6 * n + 4 → x ≠ 6 * n + 5 → d' x = d x := by
    intro x h1 h2 h3
    rw [hd', ← hn, va_up_ne _ _ h3, va_up_ne _ _ h2, va_up_ne _ _ h1]
  have e3 : d' (6 * n + 3) = q := by rw [hd', ← hn, va_up_ne _ _ (by omega), va_up_ne _ _ (by omega), va_up_self]
  have e4 : d' (6 * n + 4) = u0 := by rw [hd', ← hn, va_up_ne _ _ (by omega), va_up_self]
  have e5 : d' (6 * n + 5) = u1 := by rw [hd', ← hn, va_up_self]
  rw [← hd']
  unfold wC
  rw [wSt_congr (d := d) (d' := d') (M := M) (M' := nKt M) rfl rfl rfl (by funext k; congr 1; funext i; exact hne _ (by omega) (by omega) (by omega)) (by funext k; exact map_congr_ne (n := n) (by rw [hn]; exact hfree k) (fun i hi => hne _ (by omega) (by omega) (by omega)))]
  rw [List.append_assoc]
  congr 1
  · congr 1
    refine fm_congr _ (fun j hj => ?_)
    simp only [rkC, nKt]
    rw [hne (6 * j) (by omega) (by omega) (by omega), hne (6 * j + 1) (by omega) (by omega) (by omega), hne (6 * j + 2) (by omega) (by omega) (by omega)]
    rw [va_up_ne _ _ (show 4 * j ≠ 4 * M.2.2.2.2.2 1 + 3 by omega), va_up_ne _ _ (show 4 * j ≠ 4 * M.2.2.2.2.2 1 + 2 by omega), va_up_ne _ _ (show 4 * j + 1 ≠ 4 * M.2.2.2.2.2 1 + 3 by omega), va_up_ne _ _ (show 4 * j + 1 ≠ 4 * M.2.2.2.2.2 1 + 2 by omega), va_up_ne _ _ (show j + 2 ≠ 1 by omega)]
  · show _ = (List.range (M.2.2.2.2.2 1 + 1)).flatMap (ktC K d' (nKt M))
    rw [List.range_succ, List.flatMap_append]
    congr 1
    · refine fm_congr _ (fun j hj => ?_)
      simp only [ktC, nKt]
      rw [hne (6 * j + 3) (by omega) (by omega) (by omega), hne (6 * j + 4) (by omega) (by omega) (by omega), hne (6 * j + 5) (by omega) (by omega) (by omega)]
      rw [va_up_ne _ _ (show 4 * j + 2 ≠ 4 * M.2.2.2.2.2 1 + 3 by omega), va_up_ne _ _ (show 4 * j + 2 ≠ 4 * M.2.2.2.2.2 1 + 2 by omega), va_up_ne _ _ (show 4 * j + 3 ≠ 4 * M.2.2.2.2.2 1 + 3 by omega), va_up_ne _ _ (show 4 * j + 3 ≠ 4 * M.2.2.2.2.2 1 + 2 by omega)]
    · simp only [List.flatMap_cons, List.flatMap_nil, List.append_nil, ktC, nKt]
      rw [← hn, e3, e4, e5, va_up_self, va_up_ne _ _ (show 4 * n + 2 ≠ 4 * n + 3 by omega), va_up_self]
theorem push_R {K : Kx} {A : Nat → Prop} {s : State} {H : Heap} {locs : List Loc} {a d : Nat → Nat} {M : Mem} (q u0 u1 : Nat) (x : Int32) (N : Nat) (hfree : ∀ k, M.2.2.1 25 k ≠ some (M.2.2.2.2.2 0))
    (hW : Wd K A s (wC K a d M ++ [(q, .inr (5, [.int x, .ref u0, .ref u1])), (u0, .inl (K.2 0, N, .inl (fl_ (fun _ => 0) 0 N (-1)))), (u1, .inl (K.2 1, N * 20, .inr (.inl (fun _ => 0))))]) H locs) : Wd K A s (wC K a (va_up (va_up (va_up d (6 * M.2.2.2.2.2 0) q) (6 * M.2.2.2.2.2 0 + 1) u0) (6 * M.2.2.2.2.2 0 + 2) u1) (nRk M x N)) H locs := by
  obtain ⟨n, hn⟩ : ∃ z, z = M.2.2.2.2.2 0 := ⟨_, rfl⟩
  obtain ⟨d', hd'⟩ : ∃ z, z = va_up (va_up (va_up d (6 * M.2.2.2.2.2 0) q) (6 * M.2.2.2.2.2 0 + 1) u0) (6 * M.2.2.2.2.2 0 + 2) u1 := ⟨_, rfl⟩
  have hne : ∀ x, x ≠ 6 * n → x ≠ 6 * n + 1 → x ≠ 6 * n + 2 → d' x = d x := by
    intro x h1 h2 h3
    rw [hd', ← hn, va_up_ne _ _ h3, va_up_ne _ _ h2, va_up_ne _ _ h1]
  have e3 : d' (6 * n) = q := by rw [hd', ← hn, va_up_ne _ _ (by omega), va_up_ne _ _ (by omega), va_up_self]
  have e4 : d' (6 * n + 1) = u0 := by rw [hd', ← hn, va_up_ne _ _ (by omega), va_up_self]
  have e5 : d' (6 * n + 2) = u1 := by rw [hd', ← hn, va_up_self]
  rw [← hd']
  have hW : Wd K A s (((wSt K a d M ++ wRk K d M) ++ [(q, .inr (5, [.int x, .ref u0, .ref u1])), (u0, .inl (K.2 0, N, .inl (fl_ (fun _ => 0) 0 N (-1)))), (u1, .inl (K.2 1, N * 20, .inr (.inl (fun _ => 0))))]) ++ wKt K d M) H locs := ⟨hW.1.swap, hW.2.1.swap, hW.2.2⟩
  have e : ((wSt K a d M ++ wRk K d M) ++ [(q, .inr (5, [.int x, .ref u0, .ref u1])), (u0, .inl (K.2 0, N, .inl (fl_ (fun _ => 0) 0 N (-1)))), (u1, .inl (K.2 1, N * 20, .inr (.inl (fun _ => 0))))]) ++ wKt K d M = wC K a d' (nRk M x N) := by
    unfold wC
    rw [wSt_congr (d := d) (d' := d') (M := M) (M' := nRk M x N) rfl rfl rfl (by funext k; exact map_congr_ne (n := n) (by rw [hn]; exact hfree k) (fun i hi => hne _ (by omega) (by omega) (by omega))) (by funext k; congr 1; funext i; exact hne _ (by omega) (by omega) (by omega))]
    rw [List.append_assoc (wSt K a d M) (wRk K d M)]
    congr 1
    · congr 1
      show _ = (List.range (M.2.2.2.2.2 0 + 1)).flatMap (rkC K d' (nRk M x N))
      rw [List.range_succ, List.flatMap_append]
      congr 1
      · refine fm_congr _ (fun j hj => ?_)
        simp only [rkC, nRk]
        rw [hne (6 * j) (by omega) (by omega) (by omega), hne (6 * j + 1) (by omega) (by omega) (by omega), hne (6 * j + 2) (by omega) (by omega) (by omega)]
        rw [va_up_ne _ _ (show 4 * j ≠ 4 * M.2.2.2.2.2 0 + 1 by omega), va_up_ne _ _ (show 4 * j ≠ 4 * M.2.2.2.2.2 0 by omega), va_up_ne _ _ (show 4 * j + 1 ≠ 4 * M.2.2.2.2.2 0 + 1 by omega), va_up_ne _ _ (show 4 * j + 1 ≠ 4 * M.2.2.2.2.2 0 by omega), va_up_ne _ _ (show j + 2 ≠ M.2.2.2.2.2 0 + 2 by omega), va_up_ne _ _ (show j + 2 ≠ 0 by omega), va_up_ne _ _ (show j ≠ M.2.2.2.2.2 0 by omega)]
      · simp only [List.flatMap_cons, List.flatMap_nil, List.append_nil, rkC, nRk]
        rw [← hn, e3, e4, e5, va_up_self, va_up_self, va_up_self, va_up_ne _ _ (show 4 * n ≠ 4 * n + 1 by omega), va_up_self]
    · refine fm_congr _ (fun j hj => ?_)
      simp only [ktC, nRk]
      rw [hne (6 * j + 3) (by omega) (by omega) (by omega), hne (6 * j + 4) (by omega) (by omega) (by omega), hne (6 * j + 5) (by omega) (by omega) (by omega)]
      rw [va_up_ne _ _ (show 4 * j + 2 ≠ 4 * M.2.2.2.2.2 0 + 1 by omega), va_up_ne _ _ (show 4 * j + 2 ≠ 4 * M.2.2.2.2.2 0 by omega), va_up_ne _ _ (show 4 * j + 3 ≠ 4 * M.2.2.2.2.2 0 + 1 by omega), va_up_ne _ _ (show 4 * j + 3 ≠ 4 * M.2.2.2.2.2 0 by omega)]
  rw [← e]
  exact hW
