/-! the pure half: counting needs -/
theorem sm_z {f : Nat → Nat} : ∀ n, sm f n = 0 → ∀ i, i < n → f i = 0 := by
  intro n
  induction n with
  | zero => intro _ i hi; omega
  | succ n ih =>
    intro h i hi
    have h : sm f n + f n = 0 := h
    by_cases q : i = n
    · rw [q]; omega
    · exact ih (by omega) i (by omega)
theorem sm_nz {f : Nat → Nat} : ∀ n, sm f n ≠ 0 → ∃ i, i < n ∧ f i ≠ 0 := by
  intro n
  induction n with
  | zero => intro h; exact absurd rfl h
  | succ n ih =>
    intro h
    have h : sm f n + f n ≠ 0 := h
    by_cases q : f n = 0
    · obtain ⟨i, h1, h2⟩ := ih (by omega)
      exact ⟨i, by omega, h2⟩
    · exact ⟨n, by omega, q⟩
theorem sm_b {f : Nat → Nat} {b : Nat} : ∀ n, (∀ i, i < n → f i ≤ b) → sm f n ≤ n * b := by
  intro n
  induction n with
  | zero => intro _; exact Nat.zero_le _
  | succ n ih =>
    intro h
    show sm f n + f n ≤ (n + 1) * b
    have a := ih (fun i hi => h i (by omega))
    have c := h n (by omega)
    rw [Nat.succ_mul]
    omega
theorem sm_o {f g : Nat → Nat} {k x : Nat} : ∀ n, k < n → g k = f k + x → (∀ i, i < n → i ≠ k → g i = f i) → sm g n = sm f n + x := by
  intro n
  induction n with
  | zero => intro h; omega
  | succ n ih =>
    intro hk h1 h2
    show sm g n + g n = sm f n + f n + x
    by_cases q : k = n
    · subst q
      rw [sm_c (f := g) (g := f) k (fun i hi => h2 i (by omega) (by omega)), h1]; omega
    · rw [ih (by omega) h1 (fun i hi => h2 i (by omega)), h2 n (by omega) (fun z => q z.symm)]; omega
theorem ind_t {p : Prop} (h : p) : ind p = 1 := by unfold ind; exact if_pos h
theorem ind_f {p : Prop} (h : ¬ p) : ind p = 0 := by unfold ind; exact if_neg h
theorem ind_e {p q : Prop} (h : p ↔ q) : ind p = ind q := by rw [propext h]
theorem ind_l (p : Prop) : ind p ≤ 1 := by
  rcases Classical.em p with h | h
  · rw [ind_t h]; omega
  · rw [ind_f h]; omega
theorem ind_n {p : Prop} (h : ind p ≠ 0) : p := by
  rcases Classical.em p with q | q
  · exact q
  · exact absurd (ind_f q) h
/-- how many triples there are -/
noncomputable def cnt3 (n : Nat) (P : Nat → Nat → Nat → Prop) : Nat := sm (fun w => sm (fun v => sm (fun k => ind (P v w k)) 3) w) n
theorem cnt3_e {n : Nat} {P Q : Nat → Nat → Nat → Prop} (h : ∀ v w k, v < w → w < n → k < 3 → (P v w k ↔ Q v w k)) : cnt3 n P = cnt3 n Q :=
  sm_c n (fun w hw => sm_c w (fun v hv => sm_c 3 (fun k hk => ind_e (h v w k hv hw hk))))
theorem cnt3_b {n : Nat} (hn : n ≤ 400) (P : Nat → Nat → Nat → Prop) : cnt3 n P ≤ 480000 := by
  have : cnt3 n P ≤ n * 1200 := sm_b n (fun w hw => by
    have : sm (fun v => sm (fun k => ind (P v w k)) 3) w ≤ w * 3 := sm_b w (fun v hv => by
      have : sm (fun k => ind (P v w k)) 3 ≤ 3 * 1 := sm_b 3 (fun k hk => ind_l _)
      omega)
    omega)
  omega
theorem cnt3_z {n : Nat} {P : Nat → Nat → Nat → Prop} (h : cnt3 n P = 0) {v w k : Nat} (hv : v < w) (hw : w < n) (hk : k < 3) : ¬ P v w k := fun p => by
  have := sm_z 3 (sm_z w (sm_z n h w hw) v hv) k hk
  rw [ind_t p] at this
  omega
theorem cnt3_nz {n : Nat} {P : Nat → Nat → Nat → Prop} (h : cnt3 n P ≠ 0) : ∃ v w k, v < w ∧ w < n ∧ k < 3 ∧ P v w k := by
  obtain ⟨w, hw, h1⟩ := sm_nz n h
  obtain ⟨v, hv, h2⟩ := sm_nz w h1
  obtain ⟨k, hk, h3⟩ := sm_nz 3 h2
  exact ⟨v, w, k, hv, hw, hk, ind_n h3⟩
theorem cnt3_u {n v0 w0 k0 : Nat} {C G : Nat → Nat → Nat → Prop} (hv : v0 < w0) (hw : w0 < n) (hk : k0 < 3) (hG : ¬ G v0 w0 k0) :
    cnt3 n (fun v w k => C v w k ∧ (G v w k ∨ v = v0 ∧ w = w0 ∧ k = k0)) = cnt3 n (fun v w k => C v w k ∧ G v w k) + ind (C v0 w0 k0) := by
  refine sm_o n hw (sm_o w0 hv (sm_o 3 hk ?_ ?_) ?_) ?_
  · rw [ind_f (p := C v0 w0 k0 ∧ G v0 w0 k0) (fun z => hG z.2), Nat.zero_add]
    exact ind_e ⟨fun z => z.1, fun z => ⟨z, .inr ⟨rfl, rfl, rfl⟩⟩⟩
  · intro k _ hn
    exact ind_e ⟨fun z => ⟨z.1, z.2.resolve_right (fun y => hn y.2.2)⟩, fun z => ⟨z.1, .inl z.2⟩⟩
  · intro v _ hn
    exact sm_c 3 (fun k _ => ind_e ⟨fun z => ⟨z.1, z.2.resolve_right (fun y => hn y.1)⟩, fun z => ⟨z.1, .inl z.2⟩⟩)
  · intro w _ hn
    exact sm_c w (fun v _ => sm_c 3 (fun k _ => ind_e ⟨fun z => ⟨z.1, z.2.resolve_right (fun y => hn y.2.1)⟩, fun z => ⟨z.1, .inl z.2⟩⟩))
/-- of one kind alone -/
theorem cnt3_k {n k0 : Nat} {P : Nat → Nat → Nat → Prop} (hk : k0 < 3) : cnt3 n (fun v w k => P v w k ∧ k = k0) = sm (fun w => sm (fun v => ind (P v w k0)) w) n := by
  refine sm_c n (fun w _ => sm_c w (fun v _ => ?_))
  have : sm (fun k => ind (P v w k ∧ k = k0)) 3 = sm (fun _ => 0) 3 + ind (P v w k0) := sm_o 3 hk (by rw [Nat.zero_add]; exact ind_e ⟨fun z => z.1, fun z => ⟨z, rfl⟩⟩) (fun k _ hn => ind_f (fun z => hn z.2))
  rw [this]
  exact Nat.zero_add _
theorem cm_le {lp ar : Nat → Int32} {m n : Nat} : ∀ k d, comO lp ar m n k d ≤ d + k := by
  intro k
  induction k with
  | zero => intro d; exact Nat.le_refl _
  | succ k ih =>
    intro d
    unfold comO
    by_cases q : d < cN_ (lp m) ∧ d < cN_ (lp n) ∧ ar (m * 4 + d) = ar (n * 4 + d)
    · rw [if_pos q]; have := ih (d + 1); omega
    · rw [if_neg q]; omega
theorem cmo_eq {M : Mem} {m n : Nat} (hm : m < 40) (hn : n < 40) (em : M.1 11 m = nI (cN_ (M.1 11 m))) (en : M.1 11 n = nI (cN_ (M.1 11 n))) (lm : cN_ (M.1 11 m) ≤ 4) (ln : cN_ (M.1 11 n) ≤ 4) : f_X2_common M (nI m) (nI n) = some (nI (comO (M.1 11) (M.1 14) m n 4 0)) := by
  unfold f_X2_common f_J9_min_7cf53
  rw [ck40 hm, ck40 hn, nI_clamp (by omega), nI_clamp (by omega)]
  generalize hlm : cN_ (M.1 11 m) = a at *
  generalize hln : cN_ (M.1 11 n) = b at *
  have lp : ∀ k d s f, d + k = 4 → k < f → (s = a ∧ a ≤ b ∨ s = b ∧ b < a) → f_X2_common_19 f (nI m) (nI n) (nI s) (nI d) M = some (nI (comO (M.1 11) (M.1 14) m n k d)) := by
    intro k
    induction k with
    | zero =>
      intro d s f hd hf hs
      obtain ⟨f, rfl⟩ : ∃ z, f = z + 1 := ⟨f - 1, by omega⟩
      rw [f_X2_common_19, if_pos (nI_le (by omega) (by omega))]; rfl
    | succ k ih =>
      intro d s f hd hf hs
      obtain ⟨f, rfl⟩ : ∃ z, f = z + 1 := ⟨f - 1, by omega⟩
      unfold comO
      rw [f_X2_common_19, hlm, hln]
      by_cases q : s ≤ d
      · rw [if_pos (nI_le q (by omega)), if_neg (by omega)]
      · rw [if_neg (nI_ge (by omega) (by omega)), i_n4, pk_mul, pk_mul, nI_add, nI_add, ck_nI (by omega) (by omega), ck_nI (by omega) (by omega), nI_clamp (by omega), nI_clamp (by omega), nI_1, ih (d + 1) s f (by omega) (by omega) hs]
        by_cases z : M.1 14 (m * 4 + d) = M.1 14 (n * 4 + d)
        · rw [if_pos z, if_pos ⟨by omega, by omega, z⟩]
        · rw [if_neg z, if_neg (fun y => z y.2.2)]
  rw [em, en]
  by_cases q : b < a
  · rw [if_pos (nI_lt q (by omega)), bq_s, i_n0]; exact lp 4 0 b 100000 (by omega) (by omega) (.inr ⟨rfl, q⟩)
  · rw [if_neg (nI_nlt (by omega) (by omega)), bq_s, i_n0]; exact lp 4 0 a 100000 (by omega) (by omega) (.inl ⟨rfl, by omega⟩)
theorem sub0 (a b : Int64) : a - b = 0 ↔ b = a := by
  constructor
  · intro h
    have : a = b := by rw [← Int64.sub_add_cancel a b, h, Int64.zero_add]
    exact this.symm
  · intro h; rw [h]; exact Int64.sub_self _
abbrev stp (L : Nat → Int64) (v w d : Nat) : Int64 := L (w * 4 + d) - L (v * 4 + d)
def mnL (b : Bool) (x y : Int64) : Int64 := if b = true then y else if y < x then y else x
def mxL (b : Bool) (x y : Int64) : Int64 := if b = true then y else if x < y then y else x
def addF (pr k dp : Nat) (M : Mem) : Mem := sI (sI (sI (sI M 46 pr (M.1 46 pr + 1)) 44 (pr * 3 + k) (M.1 44 (pr * 3 + k) + 1)) 45 dp (M.1 45 dp + 1)) 47 (pr * 5 + dp) (M.1 47 (pr * 5 + dp) + 1)
theorem dp_l {L : Nat → Int64} {v w com : Nat} : ∀ k d, d + k = 4 → dpO L v w com k d ≤ 4 := by
  intro k
  induction k with
  | zero => intro d _; exact Nat.le_refl _
  | succ k ih =>
    intro d hd
    unfold dpO
    by_cases q : d < com
    · rw [if_pos q]
      by_cases z : L (v * 4 + d) = L (w * 4 + d)
      · rw [if_pos z]; exact ih (d + 1) (by omega)
      · rw [if_neg z]; omega
    · rw [if_neg q]; omega
section
variable {L : Nat → Int64} {v w com pr k : Nat} {b : Bool}
theorem an59 (hv : v < 400) (hw : w < 400) (hpr : pr < 144) (hk : k < 3) (hcom : com ≤ 4) :
    ∀ d f M, d ≤ com → d < f → (∀ d, d < 4 → M.2.1 36 (v * 4 + d) = L (v * 4 + d) ∧ M.2.1 36 (w * 4 + d) = L (w * 4 + d)) →
    ∃ M', f_X1_addNeed_59 f (nI v) (nI w) (nI k) (nI pr) b (nI (dpO L v w com (4 - d) d)) (nI d - 1) M = some (addF pr k (dpO L v w com 4 0) M') ∧ M'.1 = M.1 ∧ (∀ c, c ≠ 49 → c ≠ 50 → M'.2.1 c = M.2.1 c) ∧ M'.2.2 = M.2.2 ∧
      (∀ d', d' < d → M'.2.1 49 (pr * 4 + d') = mnL b (M.2.1 49 (pr * 4 + d')) (stp L v w d') ∧ M'.2.1 50 (pr * 4 + d') = mxL b (M.2.1 50 (pr * 4 + d')) (stp L v w d')) ∧
      ∀ j, (∀ d', d' < d → j ≠ pr * 4 + d') → M'.2.1 49 j = M.2.1 49 j ∧ M'.2.1 50 j = M.2.1 50 j := by
  intro d
  induction d with
  | zero =>
    intro f M hd hf hL
    obtain ⟨f, rfl⟩ : ∃ z, f = z + 1 := ⟨f - 1, by omega⟩
    have hdp : dpO L v w com 4 0 ≤ 4 := dp_l 4 0 rfl
    rw [f_X1_addNeed_59, if_pos (show nI 0 - 1 < 0 by decide), i_n3, i_n5, pk_mul, pk_mul, nI_add, nI_add, show 4 - 0 = 4 from rfl]
    generalize dpO L v w com 4 0 = dp at *
    simp only [ck_nI hpr (by decide : (144 : Nat) < 2 ^ 31), ck_nI (show pr * 3 + k < 432 by omega) (by decide : (432 : Nat) < 2 ^ 31), ck_nI (show dp < 5 by omega) (by decide : (5 : Nat) < 2 ^ 31), ck_nI (show pr * 5 + dp < 720 by omega) (by decide : (720 : Nat) < 2 ^ 31), nI_clamp (show pr < 2 ^ 31 by omega), nI_clamp (show pr * 3 + k < 2 ^ 31 by omega), nI_clamp (show dp < 2 ^ 31 by omega), nI_clamp (show pr * 5 + dp < 2 ^ 31 by omega)]
    refine ⟨M, ?_, rfl, fun _ _ _ => rfl, rfl, fun d' hd' => absurd hd' (by omega), fun _ _ => ⟨rfl, rfl⟩⟩
    unfold addF
    rw [sI_n (show 44 ≠ 46 by decide), sI_n (show 45 ≠ 44 by decide), sI_n (show 45 ≠ 46 by decide), sI_n (show 47 ≠ 45 by decide), sI_n (show 47 ≠ 44 by decide), sI_n (show 47 ≠ 46 by decide)]
  | succ d ih =>
    intro f M hd hf hL
    obtain ⟨f, rfl⟩ : ∃ z, f = z + 1 := ⟨f - 1, by omega⟩
    rw [f_X1_addNeed_59, nI_pred, if_neg (nI_pos (by omega))]
    have es : f_X0_step M (nI v) (nI w) (nI d) = some (stp L v w d) := by
      unfold f_X0_step
      rw [i_n4, pk_mul, pk_mul, nI_add, nI_add, ck_nI (by omega) (by omega), ck_nI (by omega) (by omega), nI_clamp (by omega), nI_clamp (by omega), (hL d (by omega)).1, (hL d (by omega)).2]
    rw [es, bq_s]
    have e4 : 4 - d = (4 - (d + 1)) + 1 := by omega
    have go : ∀ M1, M1 = sL (sL M 49 (pr * 4 + d) (mnL b (M.2.1 49 (pr * 4 + d)) (stp L v w d))) 50 (pr * 4 + d) (mxL b (M.2.1 50 (pr * 4 + d)) (stp L v w d)) →
        ∃ M', f_X1_addNeed_59 f (nI v) (nI w) (nI k) (nI pr) b (nI (dpO L v w com (4 - d) d)) (nI d - 1) M1 = some (addF pr k (dpO L v w com 4 0) M') ∧ M'.1 = M.1 ∧ (∀ c, c ≠ 49 → c ≠ 50 → M'.2.1 c = M.2.1 c) ∧ M'.2.2 = M.2.2 ∧
        (∀ d', d' < d + 1 → M'.2.1 49 (pr * 4 + d') = mnL b (M.2.1 49 (pr * 4 + d')) (stp L v w d') ∧ M'.2.1 50 (pr * 4 + d') = mxL b (M.2.1 50 (pr * 4 + d')) (stp L v w d')) ∧
        ∀ j, (∀ d', d' < d + 1 → j ≠ pr * 4 + d') → M'.2.1 49 j = M.2.1 49 j ∧ M'.2.1 50 j = M.2.1 50 j := by
      intro M1 hM1
      have q49 : M1.2.1 49 = vp_updL (M.2.1 49) (pr * 4 + d) (mnL b (M.2.1 49 (pr * 4 + d)) (stp L v w d)) := by rw [hM1, sL_n (by decide), sL_e]
      have q50 : M1.2.1 50 = vp_updL (M.2.1 50) (pr * 4 + d) (mxL b (M.2.1 50 (pr * 4 + d)) (stp L v w d)) := by rw [hM1, sL_e, sL_n (by decide)]
      have qo : ∀ c, c ≠ 49 → c ≠ 50 → M1.2.1 c = M.2.1 c := fun c x y => by rw [hM1, sL_n y, sL_n x]
      obtain ⟨M', r1, r2, r3, r4, r5, r6⟩ := ih f M1 (by omega) (by omega) (fun d hd => by rw [qo 36 (by decide) (by decide)]; exact hL d hd)
      refine ⟨M', r1, by rw [r2, hM1]; rfl, fun c x y => (r3 c x y).trans (qo c x y), by rw [r4, hM1]; rfl, fun d' hd' => ?_, fun j hj => ?_⟩
      · by_cases z : d' = d
        · subst z
          have := r6 (pr * 4 + d') (fun d'' h => by omega)
          rw [this.1, this.2, q49, q50, pk_uLs, pk_uLs]; exact ⟨rfl, rfl⟩
        · have := r5 d' (by omega)
          rw [q49, q50, pk_uLn (by omega), pk_uLn (by omega)] at this; exact this
      · have := r6 j (fun d'' h => hj d'' (by omega))
        have n := hj d (by omega)
        rw [q49, q50, pk_uLn n, pk_uLn n] at this; exact this
    have dpe : dpO L v w com (4 - d) d = if L (v * 4 + d) = L (w * 4 + d) then dpO L v w com (4 - (d + 1)) (d + 1) else d := by
      rw [e4]
      show (if d < com then (if L (v * 4 + d) = L (w * 4 + d) then dpO L v w com (4 - (d + 1)) (d + 1) else d) else 4) = _
      rw [if_pos (by omega)]
    have h88 : ∀ x7, f_X1_addNeed_88 (f_X1_addNeed_59 f) (nI v) (nI w) (nI k) (nI pr) b x7 (nI d) (stp L v w d) M = f_X1_addNeed_59 f (nI v) (nI w) (nI k) (nI pr) b x7 (nI d - 1) (sL (sL M 49 (pr * 4 + d) (mnL b (M.2.1 49 (pr * 4 + d)) (stp L v w d))) 50 (pr * 4 + d) (mxL b (M.2.1 50 (pr * 4 + d)) (stp L v w d))) := by
      intro x7
      unfold f_X1_addNeed_88 f_X1_addNeed_125 mnL mxL f_J9_min_f86c9 f_J9_max_f86c9
      rw [i_n4, pk_mul, nI_add]
      simp only [ck_nI (show pr * 4 + d < 576 by omega) (by decide : (576 : Nat) < 2 ^ 31), nI_clamp (show pr * 4 + d < 2 ^ 31 by omega)]
      rw [show nI d + (-1) = nI d - 1 from (Int32.sub_eq_add_neg (nI d) 1).symm]
      cases b with
      | true => rfl
      | false =>
        simp only [bF]
        by_cases q1 : stp L v w d < M.2.1 49 (pr * 4 + d)
        · rw [if_pos q1, bq_s, sL_n (by decide), if_pos q1]
          by_cases q2 : M.2.1 50 (pr * 4 + d) < stp L v w d
          · rw [if_pos q2, bq_s, if_pos q2]
          · rw [if_neg q2, bq_s, if_neg q2]
        · rw [if_neg q1, bq_s, sL_n (by decide), if_neg q1]
          by_cases q2 : M.2.1 50 (pr * 4 + d) < stp L v w d
          · rw [if_pos q2, bq_s, if_pos q2]
          · rw [if_neg q2, bq_s, if_neg q2]
    by_cases z : L (v * 4 + d) = L (w * 4 + d)
    · rw [if_pos ((sub0 _ _).mpr z), h88]
      rw [if_pos z] at dpe
      rw [← dpe]
      exact go _ rfl
    · rw [if_neg (fun y => z ((sub0 _ _).mp y)), h88]
      rw [if_neg z] at dpe
      have := go _ rfl
      rw [dpe] at this
      exact this
end
