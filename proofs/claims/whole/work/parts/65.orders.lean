/-! the pure half: orders -/
theorem ix {α : Type} {f : Nat → α} {a b : Nat} (h : a = b) : f a = f b := by rw [h]
theorem OW_congr {na : Nat} {an lp rc cc rm cm rc' cc' rm' cm' : Nat → Int32} (h : OW na an lp rc cc rm cm) (han : ∀ a, a < na → cN_ (an a) < 40) (h1 : ∀ a, a < na → rc' a = rc a) (h2 : ∀ j, j < na * 112 → cc' j = cc j) (h3 : ∀ m, m < 40 → rm' m = rm m) (h4 : ∀ j, j < 4480 → cm' j = cm j) : OW na an lp rc' cc' rm' cm' := by
  intro a ha
  obtain ⟨q, o1, o2, o3, o4⟩ := h a ha
  have hm := han a ha
  have hq : q ≤ 16 := o4.2.1
  generalize cN_ (an a) = m at *
  have hc : ∀ i, i < 16 → ∀ c, c < 7 → cm' (7 * (16 * m + i) + c) = cm (7 * (16 * m + i) + c) := fun i hi c hc => h4 _ (by omega)
  refine ⟨q, by rw [h1 a ha]; exact o1, by rw [h3 m hm]; exact o2, fun i hi c hc' => ?_, ?_⟩
  · rw [h2 _ (by omega), hc i (by omega) c hc']; exact o3 i hi c hc'
  · obtain ⟨w1, w2, w3, w4, w5, w6, w7⟩ := o4
    refine ⟨w1, w2, ?_, fun d hd => ?_, fun i hi => ?_, fun i hi c hc' => ?_, fun i hi => ?_⟩
    · show cm' (7 * (16 * m + 0) + 6) = -9
      rw [hc 0 (by omega) 6 (by omega)]; exact w3
    · obtain ⟨i, hi, e⟩ := w4 d hd
      refine ⟨i, hi, ?_⟩
      show cm' (7 * (16 * m + i) + 6) = _
      rw [hc i (by omega) 6 (by omega)]; exact e
    · show ∃ w, 1 ≤ w ∧ w ≤ 400 ∧ cm' (7 * (16 * m + i) + 5) = nI w
      rw [hc i (by omega) 5 (by omega)]; exact w5 i hi
    · show -100000 ≤ (cm' (7 * (16 * m + i) + c)).toInt ∧ (cm' (7 * (16 * m + i) + c)).toInt ≤ 100000
      rw [hc i (by omega) c (by omega)]; exact w6 i hi c hc'
    · show cm' (7 * (16 * m + i) + 6) = -9 ∨ ∃ d, d < _ ∧ cm' (7 * (16 * m + i) + 6) = nI d
      rw [hc i (by omega) 6 (by omega)]; exact w7 i hi
/-- one act's rows have changed -/
theorem OW_upd {na a k : Nat} {an lp rc cc rm cm rc' cc' rm' cm' : Nat → Int32} (h : OW na an lp rc cc rm cm) (hinj : ∀ a', a' < na → a' ≠ a → cN_ (an a') ≠ k) (hk : cN_ (an a) = k) (h1 : ∀ a', a' ≠ a → rc' a' = rc a') (h2 : ∀ j, ¬ (a * 112 ≤ j ∧ j < a * 112 + 112) → cc' j = cc j)
    (h3 : ∀ m, m ≠ k → rm' m = rm m) (h4 : ∀ j, ¬ (k * 112 ≤ j ∧ j < k * 112 + 112) → cm' j = cm j)
    (hnew : ∃ q, rc' a = nI q ∧ rm' k = nI q ∧ (∀ i, i < q → ∀ c, c < 7 → cc' ((a * 16 + i) * 7 + c) = cm' (7 * (16 * k + i) + c)) ∧ RW q (cN_ (lp k)) (fun i c => cm' (7 * (16 * k + i) + c))) : OW na an lp rc' cc' rm' cm' := by
  intro a' ha'
  by_cases z : a' = a
  · subst z; rw [hk]; exact hnew
  · obtain ⟨q, o1, o2, o3, o4⟩ := h a' ha'
    have hm := hinj a' ha' z
    have hq : q ≤ 16 := o4.2.1
    generalize cN_ (an a') = m at *
    have hc : ∀ i, i < 16 → ∀ c, c < 7 → cm' (7 * (16 * m + i) + c) = cm (7 * (16 * m + i) + c) := fun i hi c hc => h4 _ (by omega)
    refine ⟨q, by rw [h1 a' z]; exact o1, by rw [h3 m hm]; exact o2, fun i hi c hc' => ?_, ?_⟩
    · rw [h2 _ (by omega), hc i (by omega) c hc']; exact o3 i hi c hc'
    · obtain ⟨w1, w2, w3, w4, w5, w6, w7⟩ := o4
      refine ⟨w1, w2, ?_, fun d hd => ?_, fun i hi => ?_, fun i hi c hc' => ?_, fun i hi => ?_⟩
      · show cm' (7 * (16 * m + 0) + 6) = -9
        rw [hc 0 (by omega) 6 (by omega)]; exact w3
      · obtain ⟨i, hi, e⟩ := w4 d hd
        refine ⟨i, hi, ?_⟩
        show cm' (7 * (16 * m + i) + 6) = _
        rw [hc i (by omega) 6 (by omega)]; exact e
      · show ∃ w, 1 ≤ w ∧ w ≤ 400 ∧ cm' (7 * (16 * m + i) + 5) = nI w
        rw [hc i (by omega) 5 (by omega)]; exact w5 i hi
      · show -100000 ≤ (cm' (7 * (16 * m + i) + c)).toInt ∧ (cm' (7 * (16 * m + i) + c)).toInt ≤ 100000
        rw [hc i (by omega) c (by omega)]; exact w6 i hi c hc'
      · show cm' (7 * (16 * m + i) + 6) = -9 ∨ ∃ d, d < _ ∧ cm' (7 * (16 * m + i) + 6) = nI d
        rw [hc i (by omega) 6 (by omega)]; exact w7 i hi
/-! copying loops of the reference -/
theorem cpy_stepF (f : Nat → Int32) {sp dp : Nat} (n : Nat) (h : dp < sp) : va_cpy (upd f dp (f sp)) (upd f dp (f sp)) (sp + 1) (dp + 1) n = va_cpy f f sp dp (n + 1) := by
  funext j
  by_cases q : dp + 1 ≤ j ∧ j < dp + 1 + n
  · rw [pk_cpy_in q.1 q.2, pk_cpy_in (by omega) (by omega), pk_un (by omega), show sp + 1 + (j - (dp + 1)) = sp + (j - dp) by omega]
  · rw [pk_cpy_out (by omega)]
    by_cases g1 : j = dp
    · subst g1; rw [pk_us, pk_cpy_in (by omega) (by omega), show sp + (j - j) = sp by omega]
    · rw [pk_un g1, pk_cpy_out (by omega)]
theorem yI_stepF {M : Mem} {c sp dp n : Nat} (h : dp < sp) : yI (sI M c dp (M.1 c sp)) c (sp + 1) c (dp + 1) n = yI M c sp c dp (n + 1) := by
  unfold yI
  rw [sI_e, cpy_stepF _ _ h]
  unfold sI
  rw [bx_uu]
theorem kt28 : ∀ m k fuel M, k + m = 4480 → m < fuel → f_X12_keepTried_28 fuel (nI k) M = some (yI M 31 k 35 k m) := by
  intro m
  induction m with
  | zero =>
    intro k fuel M hk hf
    obtain ⟨f, rfl⟩ : ∃ f, fuel = f + 1 := ⟨fuel - 1, by omega⟩
    rw [f_X12_keepTried_28, i_n4480, if_pos (nI_le (by omega) (by omega)), yI_nil]
  | succ m ih =>
    intro k fuel M hk hf
    obtain ⟨f, rfl⟩ : ∃ f, fuel = f + 1 := ⟨fuel - 1, by omega⟩
    rw [f_X12_keepTried_28, i_n4480, if_neg (nI_ge (by omega) (by omega)), ck_nI (by omega) (by omega), ck_nI (by omega) (by omega), nI_clamp (by omega), nI_1, ih (k + 1) f _ (by omega) (by omega), yI_step (by decide)]
theorem kt2 : ∀ m k fuel M, k + m = 40 → m < fuel → f_X12_keepTried_2 fuel (nI k) M = f_X12_keepTried_28 100000 0 (yI M 30 k 34 k m) := by
  intro m
  induction m with
  | zero =>
    intro k fuel M hk hf
    obtain ⟨f, rfl⟩ : ∃ f, fuel = f + 1 := ⟨fuel - 1, by omega⟩
    rw [f_X12_keepTried_2, i_n40, if_pos (nI_le (by omega) (by omega)), yI_nil]
  | succ m ih =>
    intro k fuel M hk hf
    obtain ⟨f, rfl⟩ : ∃ f, fuel = f + 1 := ⟨fuel - 1, by omega⟩
    rw [f_X12_keepTried_2, i_n40, if_neg (nI_ge (by omega) (by omega)), ck_nI (by omega) (by omega), ck_nI (by omega) (by omega), nI_clamp (by omega), nI_1, ih (k + 1) f _ (by omega) (by omega), yI_step (by decide)]
theorem kt_eq (M : Mem) : f_X12_keepTried M = some (yI (yI M 30 0 34 0 40) 31 0 35 0 4480) := by
  unfold f_X12_keepTried
  have e := kt2 40 0 100000 M rfl (by omega)
  have e2 := kt28 4480 0 100000 (yI M 30 0 34 0 40) rfl (by omega)
  exact e.trans e2
theorem gt28 : ∀ m k fuel M, k + m = 4480 → m < fuel → f_X12_giveTried_28 fuel (nI k) M = some (yI M 35 k 31 k m) := by
  intro m
  induction m with
  | zero =>
    intro k fuel M hk hf
    obtain ⟨f, rfl⟩ : ∃ f, fuel = f + 1 := ⟨fuel - 1, by omega⟩
    rw [f_X12_giveTried_28, i_n4480, if_pos (nI_le (by omega) (by omega)), yI_nil]
  | succ m ih =>
    intro k fuel M hk hf
    obtain ⟨f, rfl⟩ : ∃ f, fuel = f + 1 := ⟨fuel - 1, by omega⟩
    rw [f_X12_giveTried_28, i_n4480, if_neg (nI_ge (by omega) (by omega)), ck_nI (by omega) (by omega), ck_nI (by omega) (by omega), nI_clamp (by omega), nI_1, ih (k + 1) f _ (by omega) (by omega), yI_step (by decide)]
theorem gt2 : ∀ m k fuel M, k + m = 40 → m < fuel → f_X12_giveTried_2 fuel (nI k) M = f_X12_giveTried_28 100000 0 (yI M 34 k 30 k m) := by
  intro m
  induction m with
  | zero =>
    intro k fuel M hk hf
    obtain ⟨f, rfl⟩ : ∃ f, fuel = f + 1 := ⟨fuel - 1, by omega⟩
    rw [f_X12_giveTried_2, i_n40, if_pos (nI_le (by omega) (by omega)), yI_nil]
  | succ m ih =>
    intro k fuel M hk hf
    obtain ⟨f, rfl⟩ : ∃ f, fuel = f + 1 := ⟨fuel - 1, by omega⟩
    rw [f_X12_giveTried_2, i_n40, if_neg (nI_ge (by omega) (by omega)), ck_nI (by omega) (by omega), ck_nI (by omega) (by omega), nI_clamp (by omega), nI_1, ih (k + 1) f _ (by omega) (by omega), yI_step (by decide)]
theorem gt_eq (M : Mem) : f_X12_giveTried M = some (yI (yI M 34 0 30 0 40) 35 0 31 0 4480) := by
  unfold f_X12_giveTried
  have e := gt2 40 0 100000 M rfl (by omega)
  have e2 := gt28 4480 0 100000 (yI M 34 0 30 0 40) rfl (by omega)
  exact e.trans e2
theorem td116 {K : Nat} (hK : K < 20) : ∀ m k fuel M, k + m = 4480 → m < fuel → M.1 109 0 = nI K → f_X12_turned_116 fuel (nI k) M = some (1, sI (yI M 35 k 33 (4480 * K + k) m) 109 0 (nI (K + 1))) := by
  intro m
  induction m with
  | zero =>
    intro k fuel M hk hf h
    obtain ⟨f, rfl⟩ : ∃ f, fuel = f + 1 := ⟨fuel - 1, by omega⟩
    rw [f_X12_turned_116, i_n4480, if_pos (nI_le (by omega) (by omega)), yI_nil, h, nI_1]
  | succ m ih =>
    intro k fuel M hk hf h
    obtain ⟨f, rfl⟩ : ∃ f, fuel = f + 1 := ⟨fuel - 1, by omega⟩
    rw [f_X12_turned_116, i_n4480, if_neg (nI_ge (by omega) (by omega)), h, pk_mul, nI_add, ck_nI (by omega) (by omega), ck_nI (by omega) (by omega), nI_clamp (by omega), nI_clamp (by omega), nI_1, ih (k + 1) f _ (by omega) (by omega) (by rw [sI_n (by decide)]; exact h), ← Nat.add_assoc, yI_step (by decide)]
theorem td82 {K : Nat} (hK : K < 20) : ∀ m k fuel M, k + m = 40 → m < fuel → M.1 109 0 = nI K → f_X12_turned_82 fuel (nI k) M = f_X12_turned_116 100000 0 (yI M 34 k 32 (40 * K + k) m) := by
  intro m
  induction m with
  | zero =>
    intro k fuel M hk hf h
    obtain ⟨f, rfl⟩ : ∃ f, fuel = f + 1 := ⟨fuel - 1, by omega⟩
    rw [f_X12_turned_82, i_n40, if_pos (nI_le (by omega) (by omega)), yI_nil]
  | succ m ih =>
    intro k fuel M hk hf h
    obtain ⟨f, rfl⟩ : ∃ f, fuel = f + 1 := ⟨fuel - 1, by omega⟩
    rw [f_X12_turned_82, i_n40, if_neg (nI_ge (by omega) (by omega)), h, pk_mul, nI_add, ck_nI (by omega) (by omega), ck_nI (by omega) (by omega), nI_clamp (by omega), nI_clamp (by omega), nI_1, ih (k + 1) f _ (by omega) (by omega) (by rw [sI_n (by decide)]; exact h), ← Nat.add_assoc, yI_step (by decide)]
theorem td_push {K : Nat} (hK : K < 20) {M : Mem} (h : M.1 109 0 = nI K) : f_X12_turned_82 100000 0 M = some (1, sI (yI (yI M 34 0 32 (40 * K) 40) 35 0 33 (4480 * K) 4480) 109 0 (nI (K + 1))) := by
  have e := td82 hK 40 0 100000 M rfl (by omega) h
  have e2 := td116 hK 4480 0 100000 (yI M 34 0 32 (40 * K) 40) rfl (by omega) (by rw [yI_n (by decide)]; exact h)
  exact e.trans e2
theorem td41 {k82 : Int32 → Mem → Option (Int32 × Mem)} : ∀ m k fuel M, k + m = 85120 → m < fuel → M.1 109 0 = nI 20 → f_X12_turned_41 k82 fuel (nI k) M = k82 0 (sI (yI M 33 (k + 4480) 33 k m) 109 0 (nI 19)) := by
  intro m
  induction m with
  | zero =>
    intro k fuel M hk hf h
    obtain ⟨f, rfl⟩ : ∃ f, fuel = f + 1 := ⟨fuel - 1, by omega⟩
    rw [f_X12_turned_41, i_n85120, if_pos (nI_le (by omega) (by omega)), yI_nil, h]
    rfl
  | succ m ih =>
    intro k fuel M hk hf h
    obtain ⟨f, rfl⟩ : ∃ f, fuel = f + 1 := ⟨fuel - 1, by omega⟩
    rw [f_X12_turned_41, i_n85120, if_neg (nI_ge (by omega) (by omega)), i_n4480, nI_add, ck_nI (by omega) (by omega), ck_nI (by omega) (by omega), nI_clamp (by omega), nI_clamp (by omega), nI_1, ih (k + 1) f _ (by omega) (by omega) (by rw [sI_n (by decide)]; exact h), show k + 1 + 4480 = k + 4480 + 1 by omega, yI_stepF (by omega)]
theorem td11 {k82 : Int32 → Mem → Option (Int32 × Mem)} : ∀ m k fuel M, k + m = 760 → m < fuel → M.1 109 0 = nI 20 → f_X12_turned_11 k82 fuel (nI k) M = f_X12_turned_41 k82 100000 0 (yI M 32 (k + 40) 32 k m) := by
  intro m
  induction m with
  | zero =>
    intro k fuel M hk hf h
    obtain ⟨f, rfl⟩ : ∃ f, fuel = f + 1 := ⟨fuel - 1, by omega⟩
    rw [f_X12_turned_11, i_n760, if_pos (nI_le (by omega) (by omega)), yI_nil]
  | succ m ih =>
    intro k fuel M hk hf h
    obtain ⟨f, rfl⟩ : ∃ f, fuel = f + 1 := ⟨fuel - 1, by omega⟩
    rw [f_X12_turned_11, i_n760, if_neg (nI_ge (by omega) (by omega)), i_n40, nI_add, ck_nI (by omega) (by omega), ck_nI (by omega) (by omega), nI_clamp (by omega), nI_clamp (by omega), nI_1, ih (k + 1) f _ (by omega) (by omega) (by rw [sI_n (by decide)]; exact h), show k + 1 + 40 = k + 40 + 1 by omega, yI_stepF (by omega)]
/-- what turned does -/
theorem td_eq {M : Mem} {K : Nat} (hK : K ≤ 20) (h : M.1 109 0 = nI K) : ∃ M', f_X12_turned M = some (1, M') ∧ (∀ c, c ≠ 32 → c ≠ 33 → c ≠ 109 → M'.1 c = M.1 c) ∧ M'.2 = M.2 ∧
    ∃ s, (s = 0 ∧ K < 20 ∨ s = 1 ∧ K = 20) ∧ M'.1 109 0 = nI (K + 1 - s) ∧ (∀ t, t < K - s → ∀ k, k < 40 → M'.1 32 (40 * t + k) = M.1 32 (40 * (t + s) + k)) ∧ (∀ t, t < K - s → ∀ k, k < 4480 → M'.1 33 (4480 * t + k) = M.1 33 (4480 * (t + s) + k)) ∧
      (∀ k, k < 40 → M'.1 32 (40 * (K - s) + k) = M.1 34 k) ∧ (∀ k, k < 4480 → M'.1 33 (4480 * (K - s) + k) = M.1 35 k) := by
  unfold f_X12_turned
  rw [h]
  by_cases q : K = 20
  · subst q
    have e1 := td11 (k82 := f_X12_turned_82 100000) 760 0 100000 M rfl (by omega) h
    have e2 := td41 (k82 := f_X12_turned_82 100000) 85120 0 100000 (yI M 32 (0 + 40) 32 0 760) rfl (by omega) (by rw [yI_n (by decide)]; exact h)
    have e3 := td_push (K := 19) (by omega) (M := sI (yI (yI M 32 (0 + 40) 32 0 760) 33 (0 + 4480) 33 0 85120) 109 0 (nI 19)) (by rw [sI_e, pk_us])
    rw [if_pos (show nI 20 = 20 from rfl)]
    refine ⟨_, (e1.trans e2).trans e3, fun c a b d => ?_, rfl, 1, .inr ⟨rfl, rfl⟩, ?_, fun t ht k hk => ?_, fun t ht k hk => ?_, fun k hk => ?_, fun k hk => ?_⟩
    · rw [sI_n d, yI_n b, yI_n a, sI_n d, yI_n b, yI_n a]
    · rw [sI_e, pk_us]
    · rw [sI_n (by decide), yI_n (by decide), yI_e, pk_cpy_out (by omega), sI_n (by decide), yI_n (by decide), yI_e, pk_cpy_in (by omega) (by omega)]
      exact ix (by omega)
    · rw [sI_n (by decide), yI_e, pk_cpy_out (by omega), yI_n (by decide), sI_n (by decide), yI_e, pk_cpy_in (by omega) (by omega), yI_n (by decide)]
      exact ix (by omega)
    · rw [sI_n (by decide), yI_n (by decide), yI_e, pk_cpy_in (by omega) (by omega), sI_n (by decide), yI_n (by decide), yI_n (by decide)]
      exact ix (by omega)
    · rw [sI_n (by decide), yI_e, pk_cpy_in (by omega) (by omega), yI_n (by decide), sI_n (by decide), yI_n (by decide), yI_n (by decide)]
      exact ix (by omega)
  · have e3 := td_push (K := K) (by omega) (M := M) h
    rw [if_neg (show ¬ nI K = 20 from fun z => q (nI_inj (by omega) (by decide) z))]
    refine ⟨_, e3, fun c a b d => ?_, rfl, 0, .inl ⟨rfl, by omega⟩, ?_, fun t ht k hk => ?_, fun t ht k hk => ?_, fun k hk => ?_, fun k hk => ?_⟩
    · rw [sI_n d, yI_n b, yI_n a]
    · rw [sI_e, pk_us]; rfl
    · rw [sI_n (by decide), yI_n (by decide), yI_e, pk_cpy_out (by omega)]; rfl
    · rw [sI_n (by decide), yI_e, pk_cpy_out (by omega), yI_n (by decide)]; rfl
    · rw [sI_n (by decide), yI_n (by decide), yI_e, pk_cpy_in (by omega) (by omega)]
      exact ix (by omega)
    · rw [sI_n (by decide), yI_e, pk_cpy_in (by omega) (by omega), yI_n (by decide)]
      exact ix (by omega)
