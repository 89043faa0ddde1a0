/-! the pure half: back, swap -/
theorem ts60 {k12 : Int32 → Int32 → Int32 → Mem → Option Mem} {x1 x2 x3 : Int32} {t : Nat} (ht : t + 5 ≤ 1344) : ∀ m c f M, c + m = 5 → m < f → f_X3_turnSigns_60 k12 f x1 x2 x3 (nI t) (nI c) M = k12 x1 x2 (x3 + 1) (zI M 28 (mp (fun v => -v) (M.1 28) (t + c) (t + 5))) := by
  intro m
  induction m with
  | zero =>
    intro c f M hc hf
    obtain ⟨f, rfl⟩ : ∃ g, f = g + 1 := ⟨f - 1, by omega⟩
    have : c = 5 := by omega
    subst this
    rw [f_X3_turnSigns_60, if_pos (by decide), mp_nil, zI_self]
  | succ m ih =>
    intro c f M hc hf
    obtain ⟨f, rfl⟩ : ∃ g, f = g + 1 := ⟨f - 1, by omega⟩
    rw [f_X3_turnSigns_60, i_n5, if_neg (nI_ge (by omega) (by omega)), nI_add, ck_nI (by omega) (by omega), ck_nI (by omega) (by omega), nI_clamp (by omega), nI_1, ih (c + 1) f _ (by omega) (by omega), zI_s, sI_e, ← Nat.add_assoc, mp_step (fun v => -v) _ (by omega)]
theorem tb38 {k2 : Int32 → Int32 → Mem → Option Mem} {x1 x2 : Int32} {t : Nat} (ht : t + 5 ≤ 4480) : ∀ m c f M, c + m = 5 → m < f → f_X12_turnBack_38 k2 f x1 x2 (nI t) (nI c) M = k2 x1 (x2 + 1) (zI M 31 (mp (fun v => -v) (M.1 31) (t + c) (t + 5))) := by
  intro m
  induction m with
  | zero =>
    intro c f M hc hf
    obtain ⟨f, rfl⟩ : ∃ g, f = g + 1 := ⟨f - 1, by omega⟩
    have : c = 5 := by omega
    subst this
    rw [f_X12_turnBack_38, if_pos (by decide), mp_nil, zI_self]
  | succ m ih =>
    intro c f M hc hf
    obtain ⟨f, rfl⟩ : ∃ g, f = g + 1 := ⟨f - 1, by omega⟩
    rw [f_X12_turnBack_38, i_n5, if_neg (nI_ge (by omega) (by omega)), nI_add, ck_nI (by omega) (by omega), ck_nI (by omega) (by omega), nI_clamp (by omega), nI_1, ih (c + 1) f _ (by omega) (by omega), zI_s, sI_e, ← Nat.add_assoc, mp_step (fun v => -v) _ (by omega)]
def swp (f : Nat → Int32) (s t n : Nat) : Nat → Int32 := fun j => if s ≤ j ∧ j < s + n then f (t + (j - s)) else if t ≤ j ∧ j < t + n then f (s + (j - t)) else f j
theorem swp_1 {f : Nat → Int32} {s t n j : Nat} (h : s ≤ j ∧ j < s + n) : swp f s t n j = f (t + (j - s)) := by unfold swp; rw [if_pos h]
theorem swp_2 {f : Nat → Int32} {s t n j : Nat} (h : ¬ (s ≤ j ∧ j < s + n)) (g : t ≤ j ∧ j < t + n) : swp f s t n j = f (s + (j - t)) := by unfold swp; rw [if_neg h, if_pos g]
theorem swp_3 {f : Nat → Int32} {s t n j : Nat} (h : ¬ (s ≤ j ∧ j < s + n)) (g : ¬ (t ≤ j ∧ j < t + n)) : swp f s t n j = f j := by unfold swp; rw [if_neg h, if_neg g]
theorem swp_nil (f : Nat → Int32) (s t : Nat) : swp f s t 0 = f := funext (fun j => swp_3 (by omega) (by omega))
theorem swp_step (f : Nat → Int32) {s t n : Nat} (h : s + (n + 1) ≤ t ∨ t + (n + 1) ≤ s) : swp (upd (upd f s (f t)) t (f s)) (s + 1) (t + 1) n = swp f s t (n + 1) := by
  funext j
  by_cases q1 : s + 1 ≤ j ∧ j < s + 1 + n
  · rw [swp_1 q1, swp_1 (by omega), pk_un (by omega), pk_un (by omega)]; exact ix (by omega)
  · by_cases q2 : t + 1 ≤ j ∧ j < t + 1 + n
    · rw [swp_2 q1 q2, swp_2 (by omega) (by omega), pk_un (by omega), pk_un (by omega)]; exact ix (by omega)
    · rw [swp_3 q1 q2]
      by_cases z1 : j = t
      · subst z1
        rw [pk_us, swp_2 (by omega) (by omega)]; exact ix (by omega)
      · rw [pk_un z1]
        by_cases z2 : j = s
        · subst z2
          rw [pk_us, swp_1 (by omega)]; exact ix (by omega)
        · rw [pk_un z2, swp_3 (by omega) (by omega)]
theorem sw79 {k13 : Int32 → Int32 → Int32 → Int32 → Mem → Option Mem} {x1 x2 x3 x4 : Int32} {s t : Nat} (hs : s + 6 ≤ 1344) (ht : t + 6 ≤ 1344) (hd : s + 7 ≤ t ∨ t + 7 ≤ s) : ∀ m c f M, c + m = 6 → m < f → f_X3_swapRows_79 k13 f x1 x2 x3 x4 (nI s) (nI t) (nI c) M = k13 x1 x2 x3 (x4 + 1) (zI M 28 (swp (M.1 28) (s + c) (t + c) m)) := by
  intro m
  induction m with
  | zero =>
    intro c f M hc hf
    obtain ⟨f, rfl⟩ : ∃ g, f = g + 1 := ⟨f - 1, by omega⟩
    have : c = 6 := by omega
    subst this
    rw [f_X3_swapRows_79, if_pos (by decide), swp_nil, zI_self]
  | succ m ih =>
    intro c f M hc hf
    obtain ⟨f, rfl⟩ : ∃ g, f = g + 1 := ⟨f - 1, by omega⟩
    rw [f_X3_swapRows_79, i_n5, if_neg (nI_nlt (by omega) (by omega)), nI_add, nI_add, ck_nI (by omega) (by omega), ck_nI (by omega) (by omega), ck_nI (by omega) (by omega), ck_nI (by omega) (by omega), nI_clamp (by omega), nI_clamp (by omega), nI_1, ih (c + 1) f _ (by omega) (by omega), zI_s, zI_s, sI_e, sI_e, ← Nat.add_assoc, ← Nat.add_assoc, swp_step _ (by omega)]
theorem sw71 {k10 : Int32 → Int32 → Int32 → Int32 → Mem → Option Mem} {x1 x2 x3 x4 : Int32} {s t : Nat} (hs : s + 6 ≤ 4480) (ht : t + 6 ≤ 4480) (hd : s + 7 ≤ t ∨ t + 7 ≤ s) : ∀ m c f M, c + m = 6 → m < f → f_X12_swapRows_71 k10 f x1 x2 x3 x4 (nI s) (nI t) (nI c) M = k10 x1 x2 x3 (x4 + 1) (zI M 31 (swp (M.1 31) (s + c) (t + c) m)) := by
  intro m
  induction m with
  | zero =>
    intro c f M hc hf
    obtain ⟨f, rfl⟩ : ∃ g, f = g + 1 := ⟨f - 1, by omega⟩
    have : c = 6 := by omega
    subst this
    rw [f_X12_swapRows_71, if_pos (by decide), swp_nil, zI_self]
  | succ m ih =>
    intro c f M hc hf
    obtain ⟨f, rfl⟩ : ∃ g, f = g + 1 := ⟨f - 1, by omega⟩
    rw [f_X12_swapRows_71, i_n6, if_neg (nI_ge (by omega) (by omega)), nI_add, nI_add, ck_nI (by omega) (by omega), ck_nI (by omega) (by omega), ck_nI (by omega) (by omega), ck_nI (by omega) (by omega), nI_clamp (by omega), nI_clamp (by omega), nI_1, ih (c + 1) f _ (by omega) (by omega), zI_s, zI_s, sI_e, sI_e, ← Nat.add_assoc, ← Nat.add_assoc, swp_step _ (by omega)]
section
variable {ns nn na : Nat} {C0 N0 : Mem}
theorem inj_a (h2 : R2' ns nn na C0 N0) {a k : Nat} (ha : a < na) (hk : k < nn) (han : C0.1 16 a = nI k) (hao : C0.1 17 k = nI a) : ∀ a', a' < na → a' ≠ a → cN_ (C0.1 16 a') ≠ k := by
  have hn : nn ≤ 40 := h2.2.2.1
  have hna : na ≤ 12 := h2.2.2.2.2.2.1
  intro a' ha' hne z
  obtain ⟨kk, hk', x1, x2, x3⟩ := h2.2.2.2.2.2.2.2.2.2.2.2.1 a' ha'
  rw [x1, cN_n' (by omega)] at z
  rw [z, hao] at x3
  exact hne (nI_inj (by omega) (by omega) x3).symm
theorem back_ls (h2 : R2' ns nn na C0 N0) (hO : OW na (C0.1 16) (C0.1 11) (C0.1 29) (C0.1 28) (N0.1 30) (N0.1 31)) {q : Nat} (hq : q < nn) (hql : Lq (N0.1 6) q) : ∃ M N, f_X3_turnSigns C0 (nI q) = some M ∧ f_X12_turnBack N0 (nI q) = some N ∧ OJ na C0 N0 M N := by
  have hn : nn ≤ 40 := h2.2.2.1
  have hna : na ≤ 12 := h2.2.2.2.2.2.1
  obtain ⟨k1, k2, k3, k4, k5⟩ := h2.2.2.2.2.2.2.1
  have hT := h2.2.2.2.2.2.2.2.1
  have hC := h2.2.2.2.2.2.2.2.2.2.2.2
  obtain ⟨d, hd, ed⟩ : ∃ d, d < 4 ∧ C0.1 11 q = nI d := ⟨_, (hT q hq).2.2.1.2.2 (by rw [k1]; exact hql), (hT q hq).2.2.1.1⟩
  have ed' : cN_ (C0.1 11 q) = d := by rw [ed]; exact cN_n' (by omega)
  unfold f_X3_turnSigns f_X12_turnBack
  rw [ck40 (by omega), nI_clamp (by omega), ed, i_n0]
  refine acts_ind hC hn (fun k a => ∀ M N f f', OJ na C0 N0 M N → nn - k < f' → na - a < f → ∃ M' N', f_X3_turnSigns_12 f (nI q) (nI d) (nI a) M = some M' ∧ f_X12_turnBack_2 f' (nI q) (nI k) N = some N' ∧ OJ na C0 N0 M' N') ?_ ?_ ?_ C0 N0 100000 100000 ⟨CB_r C0, MB_r N0, hO⟩ (by omega) (by omega)
  · intro M N f f' hJ hf' hf
    obtain ⟨f, rfl⟩ : ∃ g, f = g + 1 := ⟨f - 1, by omega⟩
    obtain ⟨f', rfl⟩ : ∃ g, f' = g + 1 := ⟨f' - 1, by omega⟩
    rw [f_X3_turnSigns_12, f_X12_turnBack_2, hJ.1.1 107 (by decide) (by decide), hJ.2.1.1 102 (by decide) (by decide), h2.2.2.2.1, h2.2.1, if_pos (nI_le (Nat.le_refl _) (by omega)), if_pos (nI_le (Nat.le_refl _) (by omega))]
    exact ⟨M, N, rfl, rfl, hJ⟩
  · intro k a hk ha h3 ih M N f f' hJ hf' hf
    obtain ⟨f', rfl⟩ : ∃ g, f' = g + 1 := ⟨f' - 1, by omega⟩
    rw [f_X12_turnBack_2, hJ.2.1.1 102 (by decide) (by decide), h2.2.1, if_neg (nI_ge hk (by omega)), ai_eq h2 (hJ.2.1.1 6 (by decide) (by decide)) (hJ.2.1.1 7 (by decide) (by decide)) hq hql hk, if_neg (by rw [← k1]; exact h3), bq_s, bF, nI_1]
    exact ih M N f f' hJ (by omega) hf
  · intro k a hk ha h3 han hao ih M N f f' hJ hf' hf
    obtain ⟨f, rfl⟩ : ∃ g, f = g + 1 := ⟨f - 1, by omega⟩
    obtain ⟨f', rfl⟩ : ∃ g, f' = g + 1 := ⟨f' - 1, by omega⟩
    rw [f_X3_turnSigns_12, f_X12_turnBack_2, hJ.1.1 107 (by decide) (by decide), hJ.2.1.1 102 (by decide) (by decide), h2.2.2.2.1, h2.2.1, if_neg (nI_ge ha (by omega)), if_neg (nI_ge hk (by omega)), ai_eq h2 (hJ.2.1.1 6 (by decide) (by decide)) (hJ.2.1.1 7 (by decide) (by decide)) hq hql hk, if_pos (by rw [← k1]; exact h3), st_eq h2 hJ.1 ha hq hk han, bq_s, bq_s, nI_1, nI_1]
    cases es : stB C0 q k with
    | false =>
      rw [bF, bF]
      exact ih M N f f' hJ (by omega) (by omega)
    | true =>
      have hst := of_decide_eq_true es
      rw [ed'] at hst
      obtain ⟨qq, o1, o2, o3, o4⟩ := hJ.2.2 a ha
      have ek : cN_ (C0.1 16 a) = k := by rw [han]; exact cN_n' (by omega)
      rw [ek] at o2 o3 o4
      have hqq : qq ≤ 16 := o4.2.1
      have hl4 : cN_ (C0.1 11 k) ≤ 4 := (hT k hk).2.2.1.2.1
      obtain ⟨i, i1, i2, i3, i4, i5⟩ := (lr_eq (M := M) (N := N) (d := d) (by omega) (by omega) hl4 o1 o2 o3 o4).1 hst.1
      unfold f_X12_rowAt
      rw [bT, bT, i3, bq_s, if_pos (nI_pos' (by omega)), ck40 (by omega), nI_clamp (by omega), hJ.2.1.1 8 (by decide) (by decide), ← k3, ed, i4, bq_s, bq_s, i_n16, i_n7, pk_mul, nI_add, pk_mul, i_n0, ts60 (by omega) 5 0 100000 M rfl (by omega), tb38 (by omega) 5 0 100000 N rfl (by omega), nI_1, nI_1]
      refine ih _ _ f f' ⟨CB_z hJ.1, MB_z hJ.2.1 (fun j hj => mp_out (by omega)), ?_⟩ (by omega) (by omega)
      refine OW_upd (a := a) (k := k) hJ.2.2 (inj_a h2 ha hk han hao) ek (fun a' _ => rfl) (fun j hj => ?_) (fun m _ => rfl) (fun j hj => ?_) ⟨qq, o1, o2, fun i' hi' c hc => ?_, ?_⟩
      · rw [zI_e, mp_out (by omega)]
      · rw [zI_e, mp_out (by omega)]
      · rw [zI_e, zI_e]
        by_cases z : i' = i ∧ c < 5
        · rw [mp_in (by omega), mp_in (by omega), o3 i' hi' c hc]
        · rw [mp_out (by omega), mp_out (by omega), o3 i' hi' c hc]
      · refine RW_num o4 (fun i' hi' => ?_) (fun i' hi' => ?_) (fun i' hi' c hc => ?_)
        · show ∃ w, 1 ≤ w ∧ w ≤ 400 ∧ mp (fun v => -v) (N.1 31) (7 * (16 * k + i) + 0) (7 * (16 * k + i) + 5) (7 * (16 * k + i') + 5) = nI w
          rw [mp_out (by omega)]; exact o4.2.2.2.2.1 i' hi'
        · show mp (fun v => -v) (N.1 31) (7 * (16 * k + i) + 0) (7 * (16 * k + i) + 5) (7 * (16 * k + i') + 6) = N.1 31 (7 * (16 * k + i') + 6)
          rw [mp_out (by omega)]
        · show -100000 ≤ (mp (fun v => -v) (N.1 31) (7 * (16 * k + i) + 0) (7 * (16 * k + i) + 5) (7 * (16 * k + i') + c)).toInt ∧ (mp (fun v => -v) (N.1 31) (7 * (16 * k + i) + 0) (7 * (16 * k + i) + 5) (7 * (16 * k + i') + c)).toInt ≤ 100000
          have hb : -100000 ≤ (N.1 31 (7 * (16 * k + i') + c)).toInt ∧ (N.1 31 (7 * (16 * k + i') + c)).toInt ≤ 100000 := o4.2.2.2.2.2.1 i' hi' c hc
          by_cases z : i' = i
          · rw [mp_in (by omega), neg_b hb]; omega
          · rw [mp_out (by omega)]; exact hb
theorem swap_ls (h2 : R2' ns nn na C0 N0) (hO : OW na (C0.1 16) (C0.1 11) (C0.1 29) (C0.1 28) (N0.1 30) (N0.1 31)) {q e : Nat} (hq : q < nn) (hql : Lq (N0.1 6) q) (he : e < 4) (hde : cN_ (C0.1 11 q) < e) : ∃ M N, f_X3_swapRows C0 (nI q) (nI e) = some M ∧ f_X12_swapRows N0 (nI q) (nI e) = some N ∧ OJ na C0 N0 M N := by
  have hn : nn ≤ 40 := h2.2.2.1
  have hna : na ≤ 12 := h2.2.2.2.2.2.1
  obtain ⟨k1, k2, k3, k4, k5⟩ := h2.2.2.2.2.2.2.1
  have hT := h2.2.2.2.2.2.2.2.1
  have hC := h2.2.2.2.2.2.2.2.2.2.2.2
  obtain ⟨d, hd, ed⟩ : ∃ d, d < 4 ∧ C0.1 11 q = nI d := ⟨_, (hT q hq).2.2.1.2.2 (by rw [k1]; exact hql), (hT q hq).2.2.1.1⟩
  have ed' : cN_ (C0.1 11 q) = d := by rw [ed]; exact cN_n' (by omega)
  rw [ed'] at hde
  unfold f_X3_swapRows f_X12_swapRows
  rw [ck40 (by omega), ck40 (by omega), nI_clamp (by omega), ← k3, ed, i_n0]
  refine acts_ind hC hn (fun k a => ∀ M N f f', OJ na C0 N0 M N → nn - k < f' → na - a < f → ∃ M' N', f_X3_swapRows_13 f (nI q) (nI e) (nI d) (nI a) M = some M' ∧ f_X12_swapRows_10 f' (nI q) (nI e) (nI d) (nI k) N = some N' ∧ OJ na C0 N0 M' N') ?_ ?_ ?_ C0 N0 100000 100000 ⟨CB_r C0, MB_r N0, hO⟩ (by omega) (by omega)
  · intro M N f f' hJ hf' hf
    obtain ⟨f, rfl⟩ : ∃ g, f = g + 1 := ⟨f - 1, by omega⟩
    obtain ⟨f', rfl⟩ : ∃ g, f' = g + 1 := ⟨f' - 1, by omega⟩
    rw [f_X3_swapRows_13, f_X12_swapRows_10, hJ.1.1 107 (by decide) (by decide), hJ.2.1.1 102 (by decide) (by decide), h2.2.2.2.1, h2.2.1, if_pos (nI_le (Nat.le_refl _) (by omega)), if_pos (nI_le (Nat.le_refl _) (by omega))]
    exact ⟨M, N, rfl, rfl, hJ⟩
  · intro k a hk ha h3 ih M N f f' hJ hf' hf
    obtain ⟨f', rfl⟩ : ∃ g, f' = g + 1 := ⟨f' - 1, by omega⟩
    rw [f_X12_swapRows_10, hJ.2.1.1 102 (by decide) (by decide), h2.2.1, if_neg (nI_ge hk (by omega)), ai_eq h2 (hJ.2.1.1 6 (by decide) (by decide)) (hJ.2.1.1 7 (by decide) (by decide)) hq hql hk, if_neg (by rw [← k1]; exact h3), bq_s, bF, nI_1]
    exact ih M N f f' hJ (by omega) hf
  · intro k a hk ha h3 han hao ih M N f f' hJ hf' hf
    obtain ⟨f, rfl⟩ : ∃ g, f = g + 1 := ⟨f - 1, by omega⟩
    obtain ⟨f', rfl⟩ : ∃ g, f' = g + 1 := ⟨f' - 1, by omega⟩
    obtain ⟨l, hl4, el⟩ : ∃ l, l ≤ 4 ∧ C0.1 11 k = nI l := ⟨_, (hT k hk).2.2.1.2.1, (hT k hk).2.2.1.1⟩
    have el' : cN_ (C0.1 11 k) = l := by rw [el]; exact cN_n' (by omega)
    rw [f_X3_swapRows_13, f_X12_swapRows_10, hJ.1.1 107 (by decide) (by decide), hJ.2.1.1 102 (by decide) (by decide), h2.2.2.2.1, h2.2.1, if_neg (nI_ge ha (by omega)), if_neg (nI_ge hk (by omega)), ai_eq h2 (hJ.2.1.1 6 (by decide) (by decide)) (hJ.2.1.1 7 (by decide) (by decide)) hq hql hk, if_pos (by rw [← k1]; exact h3), re_eq h2 hJ.1 ha hq hk han (by omega), bq_s, bq_s, nI_1, nI_1, el', ck40 (by omega), nI_clamp (show k < 2 ^ 31 by omega), hJ.2.1.1 8 (by decide) (by decide), ← k3, el]
    cases es : stB C0 q k with
    | false =>
      rw [bF, Bool.false_and, bF]
      exact ih M N f f' hJ (by omega) (by omega)
    | true =>
      rw [bT, Bool.true_and]
      by_cases hle : e < l
      · rw [decide_eq_true hle, bT, if_neg (nI_ge hle (by omega))]
        obtain ⟨qq, o1, o2, o3, o4⟩ := hJ.2.2 a ha
        have ek : cN_ (C0.1 16 a) = k := by rw [han]; exact cN_n' (by omega)
        rw [ek] at o2 o3 o4
        rw [el'] at o4
        have hqq : qq ≤ 16 := o4.2.1
        obtain ⟨i, i1, i2, i3, i4, i5⟩ := (lr_eq (M := M) (N := N) (d := d) (by omega) (by omega) hl4 o1 o2 o3 o4).1 (by omega)
        obtain ⟨j, j1, j2, j3, j4, j5⟩ := (lr_eq (M := M) (N := N) (d := e) (by omega) (by omega) hl4 o1 o2 o3 o4).1 hle
        have hij : i ≠ j := by
          intro z
          rw [z, j5] at i5
          have := nI_inj (by omega) (by omega) i5
          omega
        unfold f_X12_rowAt
        rw [i3, j3, bq_s, bq_s, if_neg (nI_pos (by omega)), if_pos (nI_pos' (by omega)), i4, j4, bq_s, bq_s, bq_s, bq_s, i_n16, i_n7, pk_mul, nI_add, pk_mul, nI_add, pk_mul, i_n0, sw79 (by omega) (by omega) (by omega) 6 0 100000 M rfl (by omega), sw71 (by omega) (by omega) (by omega) 6 0 100000 N rfl (by omega), nI_1, nI_1]
        refine ih _ _ f f' ⟨CB_z hJ.1, MB_z hJ.2.1 (fun z hz => swp_3 (by omega) (by omega)), ?_⟩ (by omega) (by omega)
        refine OW_upd (a := a) (k := k) hJ.2.2 (inj_a h2 ha hk han hao) ek (fun a' _ => rfl) (fun z hz => ?_) (fun m _ => rfl) (fun z hz => ?_) ⟨qq, o1, o2, fun i' hi' c hc => ?_, ?_⟩
        · rw [zI_e, swp_3 (by omega) (by omega)]
        · rw [zI_e, swp_3 (by omega) (by omega)]
        · rw [zI_e, zI_e]
          by_cases z : i' = i ∧ c < 6
          · rw [swp_1 (by omega), swp_1 (by omega)]
            have := o3 j j2 c hc
            rw [show (a * 16 + j) * 7 + 0 + ((a * 16 + i') * 7 + c - ((a * 16 + i) * 7 + 0)) = (a * 16 + j) * 7 + c by omega, show 7 * (16 * k + j) + 0 + (7 * (16 * k + i') + c - (7 * (16 * k + i) + 0)) = 7 * (16 * k + j) + c by omega]
            exact this
          · by_cases y : i' = j ∧ c < 6
            · rw [swp_2 (by omega) (by omega), swp_2 (by omega) (by omega)]
              have := o3 i i2 c hc
              rw [show (a * 16 + i) * 7 + 0 + ((a * 16 + i') * 7 + c - ((a * 16 + j) * 7 + 0)) = (a * 16 + i) * 7 + c by omega, show 7 * (16 * k + i) + 0 + (7 * (16 * k + i') + c - (7 * (16 * k + j) + 0)) = 7 * (16 * k + i) + c by omega]
              exact this
            · rw [swp_3 (by omega) (by omega), swp_3 (by omega) (by omega)]; exact o3 i' hi' c hc
        · rw [el']
          have gs : ∀ i' c, c < 7 → swp (N.1 31) (7 * (16 * k + i) + 0) (7 * (16 * k + j) + 0) 6 (7 * (16 * k + i') + c) = if c < 6 then (if i' = i then N.1 31 (7 * (16 * k + j) + c) else if i' = j then N.1 31 (7 * (16 * k + i) + c) else N.1 31 (7 * (16 * k + i') + c)) else N.1 31 (7 * (16 * k + i') + c) := by
            intro i' c hc
            by_cases c6 : c < 6
            · rw [if_pos c6]
              by_cases z : i' = i
              · rw [if_pos z, swp_1 (by omega)]; exact ix (by omega)
              · rw [if_neg z]
                by_cases y : i' = j
                · rw [if_pos y, swp_2 (by omega) (by omega)]; exact ix (by omega)
                · rw [if_neg y, swp_3 (by omega) (by omega)]
            · rw [if_neg c6, swp_3 (by omega) (by omega)]
          refine RW_num o4 (fun i' hi' => ?_) (fun i' hi' => ?_) (fun i' hi' c hc => ?_)
          · show ∃ w, 1 ≤ w ∧ w ≤ 400 ∧ swp (N.1 31) (7 * (16 * k + i) + 0) (7 * (16 * k + j) + 0) 6 (7 * (16 * k + i') + 5) = nI w
            rw [gs i' 5 (by omega), if_pos (by omega)]
            by_cases z : i' = i
            · rw [if_pos z]; exact o4.2.2.2.2.1 j j2
            · rw [if_neg z]
              by_cases y : i' = j
              · rw [if_pos y]; exact o4.2.2.2.2.1 i i2
              · rw [if_neg y]; exact o4.2.2.2.2.1 i' hi'
          · show swp (N.1 31) (7 * (16 * k + i) + 0) (7 * (16 * k + j) + 0) 6 (7 * (16 * k + i') + 6) = N.1 31 (7 * (16 * k + i') + 6)
            rw [gs i' 6 (by omega), if_neg (by omega)]
          · show -100000 ≤ (swp (N.1 31) (7 * (16 * k + i) + 0) (7 * (16 * k + j) + 0) 6 (7 * (16 * k + i') + c)).toInt ∧ (swp (N.1 31) (7 * (16 * k + i) + 0) (7 * (16 * k + j) + 0) 6 (7 * (16 * k + i') + c)).toInt ≤ 100000
            rw [gs i' c (by omega), if_pos (by omega)]
            by_cases z : i' = i
            · rw [if_pos z]; exact o4.2.2.2.2.2.1 j j2 c hc
            · rw [if_neg z]
              by_cases y : i' = j
              · rw [if_pos y]; exact o4.2.2.2.2.2.1 i i2 c hc
              · rw [if_neg y]; exact o4.2.2.2.2.2.1 i' hi' c hc
      · rw [decide_eq_false hle, bF, if_pos (nI_le (by omega) (by omega))]
        exact ih M N f f' hJ (by omega) (by omega)
end
section
variable {ns nn na nr nk : Nat} {Mc Mm : Mem}
theorem R2_k {Mk Mt : Mem} (h : RelN ns nn na nr nk Mc Mm) (hk : ∀ c, c ≠ 108 → c ≠ 109 → Mk.1 c = Mc.1 c) (ht : ∀ c, c ≠ 34 → c ≠ 35 → Mt.1 c = Mm.1 c) : R2' ns nn na Mk Mt ∧ OW na (Mk.1 16) (Mk.1 11) (Mk.1 29) (Mk.1 28) (Mt.1 30) (Mt.1 31) := by
  refine ⟨?_, ?_⟩
  · unfold R2'
    rw [hk 106 (by decide) (by decide), hk 107 (by decide) (by decide), hk 6 (by decide) (by decide), hk 7 (by decide) (by decide), hk 8 (by decide) (by decide), hk 9 (by decide) (by decide), hk 10 (by decide) (by decide), hk 11 (by decide) (by decide), hk 12 (by decide) (by decide), hk 13 (by decide) (by decide), hk 14 (by decide) (by decide), hk 15 (by decide) (by decide), hk 16 (by decide) (by decide), hk 17 (by decide) (by decide),
      ht 102 (by decide) (by decide), ht 103 (by decide) (by decide), ht 6 (by decide) (by decide), ht 7 (by decide) (by decide), ht 8 (by decide) (by decide), ht 9 (by decide) (by decide), ht 10 (by decide) (by decide)]
    exact h.2.1
  · rw [hk 16 (by decide) (by decide), hk 11 (by decide) (by decide), hk 29 (by decide) (by decide), hk 28 (by decide) (by decide), ht 30 (by decide) (by decide), ht 31 (by decide) (by decide)]
    exact h.2.2.2.2.2.2.1.1
theorem isLp_b {M N : Mem} {j : Nat} (hj : j < 40) (e : M.1 9 = N.1 6) : ∃ b, f_X2_isLoop M (nI j) = some b ∧ f_X12_isLoop N (nI j) = some b ∧ (b = true → Lq (N.1 6) j) ∧ (b = false → ¬ Lq (N.1 6) j) := by
  unfold f_X2_isLoop f_X12_isLoop
  simp only [ck40 hj]
  rw [nI_clamp (by omega), e]
  by_cases q0 : N.1 6 j = 0
  · simp only [if_pos q0]; exact ⟨true, rfl, rfl, fun _ => .inl q0, fun z => absurd z (by decide)⟩
  · simp only [if_neg q0]
    by_cases q1 : N.1 6 j = 1
    · simp only [if_pos q1]; exact ⟨true, rfl, rfl, fun _ => .inr q1, fun z => absurd z (by decide)⟩
    · simp only [if_neg q1]; exact ⟨false, rfl, rfl, fun z => absurd z (by decide), fun _ z => z.elim q0 q1⟩
end
theorem sim_back : Sim_back Rel := by
  intro Mc Mm y0 ⟨ns, nn, na, nr, nk, h⟩
  have h2 := h.2.1
  have hn : nn ≤ 40 := h2.2.2.1
  unfold f_X11_back f_X12_back
  rw [kn_eq h2.1 (by omega), no_eq h2.2.1 (by omega)]
  cases e : inN y0 nn with
  | false => exact same_go h _
  | true =>
    obtain ⟨j, hj, rfl⟩ := inN_t e
    obtain ⟨b, b1, b2, b3, _⟩ := isLp_b (M := Mc) (N := Mm) (j := j) (by omega) h2.2.2.2.2.2.2.1.1
    rw [bq_s, bq_s, bT, bT, b1, b2, bq_s, bq_s]
    cases b with
    | false => exact meet_go h 3 (by decide) rfl
    | true =>
      obtain ⟨Mk, Mt, t1, t2, t3, t4, t5, t6, _, _, t7⟩ := turn_done h
      obtain ⟨g2, gO⟩ := R2_k h t3 t5
      obtain ⟨M, N, u1, u2, u3⟩ := back_ls g2 gO hj (by rw [t5 6 (by decide) (by decide)]; exact b3 rfl)
      obtain ⟨Mc3, Mm3, v1, v2, v3⟩ := t7 M N u3.1.1 u3.1.2 u3.2.1.1 u3.2.1.2.1 (by have := u3.2.2; rw [t3 16 (by decide) (by decide), t3 11 (by decide) (by decide)] at this; exact this)
      rw [bT, bT, t1, t2, bm_s, bm_s, u1, u2, bm_s, bm_s, v1, v2]
      exact ⟨_, _, _, rfl, rfl, v3⟩
theorem sim_swap : Sim_swap Rel := by
  intro Mc Mm y0 y1 ⟨ns, nn, na, nr, nk, h⟩
  have h2 := h.2.1
  have hn : nn ≤ 40 := h2.2.2.1
  obtain ⟨k1, k2, k3, k4, k5⟩ := h2.2.2.2.2.2.2.1
  unfold f_X11_swap f_X12_swap
  rw [kn_eq h2.1 (by omega), no_eq h2.2.1 (by omega)]
  cases e : inN y0 nn with
  | false => exact same_go h _
  | true =>
    obtain ⟨j, hj, rfl⟩ := inN_t e
    obtain ⟨b, b1, b2, b3, _⟩ := isLp_b (M := Mc) (N := Mm) (j := j) (by omega) k1
    rw [bq_s, bq_s, bT, bT, b1, b2, bq_s, bq_s]
    cases b with
    | false => exact meet_go h 3 (by decide) rfl
    | true =>
      rw [bT, bT, ck40 (by omega), ck40 (by omega), nI_clamp (by omega), ← k3, in_w (Mc.1 11 j + 1) 3 rfl (by decide)]
      rcases wi_c y1 (Mc.1 11 j + 1) 3 with g | g
      · obtain ⟨d, hd, ed⟩ : ∃ d, d ≤ 4 ∧ Mc.1 11 j = nI d := ⟨_, (h2.2.2.2.2.2.2.2.1 j hj).2.2.1.2.1, (h2.2.2.2.2.2.2.2.1 j hj).2.2.1.1⟩
        have g2 := g
        rw [wi_d, ed, nI_1] at g2
        have g3 := of_decide_eq_true (Option.some.inj g2)
        obtain ⟨e, he, rfl⟩ := nI_of2 (x := y1) (M := 3) (n := 3) (by decide) (fun z => absurd (Int32.le_trans (nI_pos' (by omega)) g3.1) (Int32.not_le.mpr z)) g3.2
        have hde : d < e := by have := (nI_leI (by omega) (by omega)).mp g3.1; omega
        obtain ⟨Mk, Mt, t1, t2, t3, t4, t5, t6, _, _, t7⟩ := turn_done h
        obtain ⟨g2, gO⟩ := R2_k h t3 t5
        obtain ⟨M, N, u1, u2, u3⟩ := swap_ls g2 gO hj (by rw [t5 6 (by decide) (by decide)]; exact b3 rfl) (e := e) (by omega) (by rw [t3 11 (by decide) (by decide), ed, cN_n' (by omega)]; exact hde)
        obtain ⟨Mc3, Mm3, v1, v2, v3⟩ := t7 M N u3.1.1 u3.1.2 u3.2.1.1 u3.2.1.2.1 (by have := u3.2.2; rw [t3 16 (by decide) (by decide), t3 11 (by decide) (by decide)] at this; exact this)
        rw [g, bq_s, bq_s, bT, bT, t1, t2, bm_s, bm_s, u1, u2, bm_s, bm_s, v1, v2]
        exact ⟨_, _, _, rfl, rfl, v3⟩
      · rw [g]; exact same_go h _
