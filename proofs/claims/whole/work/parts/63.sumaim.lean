/-! the pure half: sum, aim -/
theorem upup {α : Type} (F : Nat → α) (u w f g : α) : va_up (va_up (va_up (va_up F 4 u) 3 w) 4 f) 3 g = va_up (va_up F 4 f) 3 g := by
  funext c
  by_cases h3 : c = 3
  · subst h3; rw [va_up_self, va_up_self]
  · rw [va_up_ne _ _ h3, va_up_ne _ _ h3]
    by_cases h4 : c = 4
    · subst h4; rw [va_up_self, va_up_self]
    · rw [va_up_ne _ _ h4, va_up_ne _ _ h4, va_up_ne _ _ h3, va_up_ne _ _ h4]
theorem zz34 (M : Mem) (a b : Nat) (x y : Int32) (f g : Nat → Int32) : zI (zI (sI (sI M 4 a x) 3 b y) 4 f) 3 g = zI (zI M 4 f) 3 g :=
  congrArg (fun z => (z, M.2)) (upup M.1 (upd (M.1 4) a x) (upd ((sI M 4 a x).1 3) b y) f g)
theorem sum_loop {ns : Nat} (hs : ns < 80) : ∀ (m k fuel : Nat) (M : Mem), M.1 101 0 = nI ns → k + m = 8 → m < fuel →
    f_X12_sum_14 fuel (nI k) M = some (nI ns, sI (zI (zI M 4 (va_cpy (M.1 3) (M.1 4) k (8 * ns + k) m)) 3 (fl_ (M.1 3) k 8 0)) 101 0 (nI (ns + 1))) := by
  intro m
  induction m with
  | zero =>
    intro k fuel M hM hk hf
    obtain ⟨f, rfl⟩ : ∃ f, fuel = f + 1 := ⟨fuel - 1, by omega⟩
    have e : k = 8 := by omega
    subst e
    have ez : zI (zI M 4 (va_cpy (M.1 3) (M.1 4) 8 (8 * ns + 8) 0)) 3 (fl_ (M.1 3) 8 8 0) = M := by
      rw [cpy_nil, fl_nil]
      unfold zI
      rw [up_self, up_self]
    rw [f_X12_sum_14, if_pos (by decide), sI_e, hM, pk_us, nI_1, nI_pred, ez]
  | succ m ih =>
    intro k fuel M hM hk hf
    obtain ⟨f, rfl⟩ : ∃ f, fuel = f + 1 := ⟨fuel - 1, by omega⟩
    rw [f_X12_sum_14, hM, i_n8, if_neg (nI_ge (by omega) (by omega)), pk_mul, nI_add, ck_nI (by omega) (by omega), ck_nI (by omega) (by omega), ck_nI (by omega) (by omega), nI_clamp (by omega), nI_clamp (by omega), nI_1, ih (k + 1) f _ (by rw [sI_n (by decide), sI_n (by decide)]; exact hM) (by omega) (by omega), zz34, sI_e, sI_n (by decide), sI_n (by decide), sI_e]
    have e1 : va_cpy (upd (M.1 3) k (nI 0)) (upd (M.1 4) (8 * ns + k) (M.1 3 k)) (k + 1) (8 * ns + (k + 1)) m = va_cpy (M.1 3) (M.1 4) k (8 * ns + k) (m + 1) := by
      funext j
      by_cases q : 8 * ns + (k + 1) ≤ j ∧ j < 8 * ns + (k + 1) + m
      · rw [pk_cpy_in q.1 q.2, pk_cpy_in (by omega) (by omega), pk_un (by omega), show k + 1 + (j - (8 * ns + (k + 1))) = k + (j - (8 * ns + k)) by omega]
      · rw [pk_cpy_out (by omega)]
        by_cases z : j = 8 * ns + k
        · subst z
          rw [pk_us, pk_cpy_in (by omega) (by omega), show k + (8 * ns + k - (8 * ns + k)) = k by omega]
        · rw [pk_un z, pk_cpy_out (by omega)]
    have e2 : fl_ (upd (M.1 3) k (nI 0)) (k + 1) 8 0 = fl_ (M.1 3) k 8 0 := fl_step _ _ (by omega)
    have e1' : va_cpy (upd (M.1 3) k 0) (upd (M.1 4) (8 * ns + k) (M.1 3 k)) (k + 1) (8 * ns + (k + 1)) m = va_cpy (M.1 3) (M.1 4) k (8 * ns + k) (m + 1) := e1
    have e2' : fl_ (upd (M.1 3) k 0) (k + 1) 8 0 = fl_ (M.1 3) k 8 0 := e2
    rw [e1', e2']
theorem TW_mono {ns ns' nn : Nat} {kd pa lp fi se : Nat → Int32} (h : TW ns nn kd pa lp fi se) (hs : ns ≤ ns') : TW ns' nn kd pa lp fi se := by
  intro k hk
  obtain ⟨t1, t2, t3, t4, t5, t6, t7, t8, t9⟩ := h k hk
  refine ⟨t1, t2, t3, t4, t5, t6, fun q => ?_, fun q => ?_, t9⟩
  · obtain ⟨s, a, b⟩ := t7 q; exact ⟨s, by omega, b⟩
  · obtain ⟨s, a, b⟩ := t8 q; exact ⟨s, by omega, b⟩
section
variable {ns nn na nr nk : Nat} {Mc Mm : Mem}
theorem hP_eq (h : RelN ns nn na nr nk Mc Mm) : pgM nn Mm = (nn, Mc.1 2, Mc.1 4, Mc.1 9, Mc.1 10, Mc.1 11, Mc.1 12, Mc.1 13) := by
  obtain ⟨⟨a1, a2, a3, a4, a5, a6, a7⟩, ⟨b1, b2, b3, b4, b5, b6, ⟨k1, k2, k3, k4, k5⟩, _⟩, _⟩ := h
  unfold pgM
  rw [a5, a7, k1, k2, k3, k4, k5]
theorem hT_eq (h : RelN ns nn na nr nk Mc Mm) : TW ns nn (Mm.1 6) (Mm.1 7) (Mm.1 8) (Mm.1 9) (Mm.1 10) := by
  obtain ⟨k1, k2, k3, k4, k5⟩ := h.2.1.2.2.2.2.2.2.1
  have := h.2.1.2.2.2.2.2.2.2.1
  rw [k1, k2, k3, k4, k5] at this
  exact this
/-- the act of a visit -/
theorem vis_act (h : RelN ns nn na nr nk Mc Mm) {v : Nat} (hv : v < wN (wkA (pgM nn Mm))) : wA (wkA (pgM nn Mm)) v < nn ∧ Mm.1 6 (wA (wkA (pgM nn Mm)) v) = 3 ∧ ∃ a, a < na ∧ Mc.1 17 (wA (wkA (pgM nn Mm)) v) = nI a ∧ Mc.1 16 a = nI (wA (wkA (pgM nn Mm)) v) := by
  obtain ⟨o1, o2⟩ := (wkA_ok (P := pgM nn Mm)).2 v hv
  have k1 := h.2.1.2.2.2.2.2.2.1.1
  exact ⟨o1, o2, h.2.1.2.2.2.2.2.2.2.2.2.2.2.2.1 _ o1 (by rw [k1]; exact o2)⟩
theorem tc_tm (h : RelN ns nn na nr nk Mc Mm) {tm' : Nat → Int32} (ht : ∀ j, j < ns * 8 → tm' j = Mm.1 4 j) :
    tcA (Mm.1 2) tm' (Mm.1 11) (Mm.1 12) (Mm.1 13) (wkA (pgM nn Mm)) = tcA (Mm.1 2) (Mm.1 4) (Mm.1 11) (Mm.1 12) (Mm.1 13) (wkA (pgM nn Mm)) := by
  have hn : nn ≤ 40 := h.2.1.2.2.1
  have hs : ns ≤ 80 := h.1.2.2.2.1
  have key : ∀ v w, v < wN (wkA (pgM nn Mm)) ∧ w < 3 ∧ Mm.1 11 (3 * wA (wkA (pgM nn Mm)) v + w) ≠ -9 → cN_ (Mm.1 12 (3 * wA (wkA (pgM nn Mm)) v + w)) < ns ∧ cN_ (Mm.1 13 (3 * wA (wkA (pgM nn Mm)) v + w)) < ns := by
    intro v w ⟨q1, q2, q3⟩
    obtain ⟨o1, o2, a, ha, e1, e2⟩ := vis_act h q1
    obtain ⟨r1, r2⟩ := h.2.2.1.1 a ha w q2
    rw [e2, cN_n' (by omega)] at r1 r2
    rcases r2 with r2 | ⟨_, ⟨s, s1, s2⟩, ⟨t, t1, t2⟩, r3, r4⟩
    · rw [r1] at r2; exact absurd r2 q3
    · rw [← r3, ← r4, s2, t2, cN_n' (by omega), cN_n' (by omega)]; exact ⟨s1, t1⟩
  unfold tcA
  refine congrArg (Prod.mk _) ?_
  refine congr (congrArg Prod.mk ?_) ?_
  · funext v w
    by_cases q : v < wN (wkA (pgM nn Mm)) ∧ w < 3 ∧ Mm.1 11 (3 * wA (wkA (pgM nn Mm)) v + w) ≠ -9
    · rw [if_pos q, if_pos q]; exact val_t (key v w q).1 ht
    · rw [if_neg q, if_neg q]
  · funext v w
    by_cases q : v < wN (wkA (pgM nn Mm)) ∧ w < 3 ∧ Mm.1 11 (3 * wA (wkA (pgM nn Mm)) v + w) ≠ -9
    · rw [if_pos q, if_pos q]; exact val_t (key v w q).2 ht
    · rw [if_neg q, if_neg q]
theorem wk_tm (h : RelN ns nn na nr nk Mc Mm) {tm' : Nat → Int32} (ht : ∀ j, j < ns * 8 → tm' j = Mm.1 4 j) :
    wkA (nn, Mm.1 2, tm', Mm.1 6, Mm.1 7, Mm.1 8, Mm.1 9, Mm.1 10) = wkA (pgM nn Mm) := by
  have hs : ns ≤ 80 := h.1.2.2.2.1
  have hT := hT_eq h
  unfold wkA
  refine wk_cg (P := pgM nn Mm) (P' := (nn, Mm.1 2, tm', Mm.1 6, Mm.1 7, Mm.1 8, Mm.1 9, Mm.1 10)) rfl rfl rfl rfl rfl rfl (fun k hk h3 σ => ?_) (fun k hk hl σ => ?_) 45 (-9) wkI
  · obtain ⟨s, s1, s2⟩ := (hT k hk).2.2.2.2.2.2.1 h3
    show val (Mm.1 2) tm' (wH σ) (cN_ (Mm.1 9 k)) = val (Mm.1 2) (Mm.1 4) (wH σ) (cN_ (Mm.1 9 k))
    rw [s2, cN_n' (by omega)]; exact val_t s1 ht
  · obtain ⟨s, s1, s2⟩ := (hT k hk).2.2.2.2.2.2.2.1 hl
    show val (Mm.1 2) tm' (wH σ) (cN_ (Mm.1 10 k)) = val (Mm.1 2) (Mm.1 4) (wH σ) (cN_ (Mm.1 10 k))
    rw [s2, cN_n' (by omega)]; exact val_t s1 ht
end
theorem sim_sum : Sim_sum Rel := by
  intro Mc Mm ⟨ns, nn, na, nr, nk, h⟩
  have hh := h
  obtain ⟨⟨a1, a2, a3, a4, a5, a6, a7⟩, h2, h3, h4, h5, h6, h7, h8⟩ := h
  unfold f_X11_sum f_X12_sum
  rw [a1, a2]
  by_cases q : ns = 80
  · subst q
    rw [if_neg (by decide), if_pos (show nI 80 = 80 from rfl)]; exact same_go hh _
  · rw [if_pos (show nI ns < 80 from nI_lt (b := 80) (by omega) (by decide)), if_neg (show ¬ nI ns = 80 from fun z => q (nI_inj (by omega) (by decide) z)), i_n0, sum_loop (by omega) 8 0 100000 Mm a2 rfl (by omega)]
    unfold f_X8_keepDraft
    have e105 : (fI (yI Mc 3 (0 : Int32).toNatClampNeg 4 (ns * 8) (8 : Int32).toNatClampNeg) 3 0 8 0).1 105 0 = nI ns := by
      rw [fI_n (by decide), yI_n (by decide)]; exact a1
    rw [a1, i_n8, pk_mul, nI_clamp (show ns * 8 < 2 ^ 31 by omega)]
    have e105' : (fI (yI Mc 3 (0 : Int32).toNatClampNeg 4 (ns * 8) (nI 8).toNatClampNeg) 3 0 8 0).1 105 0 = nI ns := e105
    rw [e105', sI_e, pk_us, nI_1, nI_pred]
    have eca : ∀ k : Option (Int32 × Mem), ca 0 (nI (ns * 8)) (nI 8) 8 640 k = k := fun k => ca_nI (a := 0) (by omega) (by omega) (by omega) (by omega)
    rw [eca, bd_s]
    have c0 : (0 : Int32).toNatClampNeg = 0 := by decide
    have c8 : (nI 8).toNatClampNeg = 8 := by decide
    rw [c0, c8]
    refine ⟨_, _, _, rfl, rfl, ns + 1, nn, na, nr, nk, ⟨?_, ?_, by omega, by omega, a5, ?_, ?_⟩, ?_, R3_mono h3 (by omega) (Nat.le_refl _), h4, h5, h6, h7, ?_⟩
    · rw [sI_e, pk_us]
    · rw [sI_e, pk_us]
    · rw [sI_n (by decide), fI_e, yI_n (by decide), sI_n (by decide), zI_e, a6]
    · rw [sI_n (by decide), fI_n (by decide), yI_e, sI_n (by decide), zI_n (by decide), zI_e, a6, a7, Nat.mul_comm]
      rfl
    · obtain ⟨b1, b2, b3, b4, b5, b6, b7, bT, b8⟩ := h2
      exact ⟨b1, b2, b3, b4, b5, b6, b7, TW_mono bT (by omega), b8⟩
    · have ht : ∀ j, j < ns * 8 → va_cpy (Mm.1 3) (Mm.1 4) 0 (8 * ns + 0) 8 j = Mm.1 4 j := fun j hj => pk_cpy_out (by omega)
      have e1 := wk_tm hh ht
      have e2 := tc_tm hh ht
      show R8 na (Mc.1 16) (Mc.1 11) (Mc.1 14) (nn, Mm.1 2, va_cpy (Mm.1 3) (Mm.1 4) 0 (8 * ns + 0) 8, Mm.1 6, Mm.1 7, Mm.1 8, Mm.1 9, Mm.1 10) (Mm.1 11) (Mm.1 12) (Mm.1 13) (Mm.1 30) (Mm.1 31) (Mc.1 110 0) (Mc.1 112 0) (Mc.1 113 0) (Mc.1 114 0) (Mc.1 115 0) (Mc.1 116 0) (Mc.1 117 0) (Mc.1 118 0) (Mc.1 119 0) (Mc.1 120 0) (Mc.1 121 0) (Mc.1 122 0) (Mc.1 123 0)
        (Mc.1 35) (Mc.2.1 36) (Mc.2.1 39) (Mc.2.1 40) (Mc.1 41) (Mc.1 44) (Mc.1 45) (Mc.1 46) (Mc.1 47) (Mc.2.1 49) (Mc.2.1 50) (Mc.1 57) (Mc.1 59) (Mc.1 62)
      unfold R8
      rw [e1]
      show (_ ∧ (_ → _ ∧ _ ∧ UW _ (tcA (Mm.1 2) (va_cpy (Mm.1 3) (Mm.1 4) 0 (8 * ns + 0) 8) (Mm.1 11) (Mm.1 12) (Mm.1 13) (wkA (pgM nn Mm))) _ _ _ _) ∧ (_ → _ ∧ NW _ _ _ _ _ (tcA (Mm.1 2) (va_cpy (Mm.1 3) (Mm.1 4) 0 (8 * ns + 0) 8) (Mm.1 11) (Mm.1 12) (Mm.1 13) (wkA (pgM nn Mm))) _ _ _ _ _ _) ∧ _ ∧ (_ → _ ∧ _ ∧ JW _ _ (tcA (Mm.1 2) (va_cpy (Mm.1 3) (Mm.1 4) 0 (8 * ns + 0) 8) (Mm.1 11) (Mm.1 12) (Mm.1 13) (wkA (pgM nn Mm))) _ _ _) ∧ _)
      rw [e2]
      exact h8
/-! aims -/
theorem fit_eq {M N : Mem} {s : Nat} (e : M.1 4 = N.1 4) (hs : s < 80) : ∀ m k f f', k + m = 4 → m < f → m < f' → ∃ b, f_X8_fits_23 f (nI (s * 8 + 4)) (nI k) M = some b ∧ f_X12_hasLetters_5 f' (nI s) true (nI k) N = some b := by
  have off : ∀ m k f', k + m = 4 → m < f' → f_X12_hasLetters_5 f' (nI s) false (nI k) N = some false := by
    intro m
    induction m with
    | zero =>
      intro k f' hk hf'
      obtain ⟨f', rfl⟩ : ∃ g, f' = g + 1 := ⟨f' - 1, by omega⟩
      have : k = 4 := by omega
      subst this
      rw [f_X12_hasLetters_5, if_pos (by decide)]
    | succ m ih =>
      intro k f' hk hf'
      obtain ⟨f', rfl⟩ : ∃ g, f' = g + 1 := ⟨f' - 1, by omega⟩
      rw [f_X12_hasLetters_5, i_n4, if_neg (nI_ge (by omega) (by omega)), bF, nI_1]
      exact ih (k + 1) f' (by omega) (by omega)
  intro m
  induction m with
  | zero =>
    intro k f f' hk hf hf'
    obtain ⟨f, rfl⟩ : ∃ g, f = g + 1 := ⟨f - 1, by omega⟩
    obtain ⟨f', rfl⟩ : ∃ g, f' = g + 1 := ⟨f' - 1, by omega⟩
    have : k = 4 := by omega
    subst this
    rw [f_X8_fits_23, f_X12_hasLetters_5, if_pos (by decide), if_pos (by decide)]
    exact ⟨_, rfl, rfl⟩
  | succ m ih =>
    intro k f f' hk hf hf'
    obtain ⟨f, rfl⟩ : ∃ g, f = g + 1 := ⟨f - 1, by omega⟩
    obtain ⟨f', rfl⟩ : ∃ g, f' = g + 1 := ⟨f' - 1, by omega⟩
    rw [f_X8_fits_23, f_X12_hasLetters_5, i_n4, if_neg (nI_ge (by omega) (by omega)), if_neg (nI_ge (by omega) (by omega)), bT, i_n8, pk_mul, nI_add, nI_add, nI_add, ck_nI (by omega) (by omega), ck_nI (by omega) (by omega), nI_clamp (by omega), nI_clamp (by omega), nI_1, e, Nat.mul_comm 8 s]
    by_cases z : N.1 4 (s * 8 + 4 + k) = 0
    · rw [if_pos z, if_pos z]; exact ih (k + 1) f f' (by omega) (by omega) (by omega)
    · rw [if_neg z, if_neg z]; exact ⟨false, rfl, off m (k + 1) f' (by omega) (by omega)⟩
/-- a sum fits, by the class and by the reference -/
theorem fits_c {M N : Mem} {ns l : Nat} (e : M.1 4 = N.1 4) (h1 : M.1 105 0 = nI ns) (hns : ns ≤ 80) (hl : l ≤ 4) (x : Int32) :
    (inN x ns = false ∧ f_X8_fits M x (nI l) = some false) ∨ (∃ s, s < ns ∧ x = nI s ∧ ∃ b, f_X8_fits M x (nI l) = some b ∧ f_X12_hasLetters N x (nI l) = some b) := by
  unfold f_X8_fits f_X12_hasLetters
  rw [ks_eq h1 (by omega)]
  cases g : inN x ns with
  | false => exact .inl ⟨rfl, rfl⟩
  | true =>
    obtain ⟨s, hs, rfl⟩ := inN_t g
    refine .inr ⟨s, hs, rfl, ?_⟩
    rw [bq_s, bT, i_n8, pk_mul, nI_add, i_n4, pk_sub (by omega), show s * 8 + 8 - 4 = s * 8 + 4 by omega]
    exact fit_eq e (by omega) (4 - l) l 100000 100000 (by omega) (by omega) (by omega)
theorem sim_aim : Sim_aim Rel := by
  intro Mc Mm y0 y1 y2 y3 y4 ⟨ns, nn, na, nr, nk, h⟩
  have h1 := h.1
  have h2 := h.2.1
  have h5 := h.2.2.2.2.1
  have hn : nn ≤ 40 := h2.2.2.1
  have hna : na ≤ 12 := h2.2.2.2.2.2.1
  have hnr : nr ≤ 8 := h5.2.2.1
  have hns : ns ≤ 80 := h1.2.2.2.1
  obtain ⟨k1, k2, k3, k4, k5⟩ := h2.2.2.2.2.2.2.1
  unfold f_X11_aim f_X12_aim
  rw [kn_eq h2.1 (by omega), no_eq h2.2.1 (by omega), in_w 0 2, wi_n y1 (b := 2) (m := 2) (n := 3) rfl rfl (by decide), rk_eq h, h5.2.1, in_p y2 (by omega)]
  cases e : inN y0 nn with
  | false => exact same_go h _
  | true =>
    obtain ⟨j, hj, rfl⟩ := inN_t e
    cases e1 : inN y1 3 with
    | false => exact same_go h _
    | true =>
      obtain ⟨w, hw, rfl⟩ := inN_t e1
      cases e2 : inN y2 nr with
      | false => exact same_go h _
      | true =>
        obtain ⟨r, hr, rfl⟩ := inN_t e2
        simp only [bq_s, bT, oq_s, if_true]
        rw [ks_eq h1.1 (by omega), ks_eq h1.1 (by omega), su_eq h1.2.1 (by omega), su_eq h1.2.1 (by omega)]
        cases e3 : inN y3 ns with
        | false => exact same_go h _
        | true =>
          cases e4 : inN y4 ns with
          | false => exact same_go h _
          | true =>
            obtain ⟨l1, l2, l3⟩ := (h2.2.2.2.2.2.2.2.1 j hj).2.2.1
            unfold f_X2_isAct
            simp only [bq_s, bT, ck40 (show j < 40 by omega)]
            rw [nI_clamp (by omega), k1]
            by_cases q3 : Mm.1 6 j = 3
            · obtain ⟨a, ha, o1, o2⟩ := h2.2.2.2.2.2.2.2.2.2.2.2.2.1 j hj (by rw [k1]; exact q3)
              simp only [if_pos q3, bq_s, bT]
              rw [← k3, l1]
              rcases fits_c (N := Mm) (l := cN_ (Mc.1 11 j)) h1.2.2.2.2.2.2 h1.1 hns l2 y3 with ⟨z, _⟩ | ⟨s, hs, rfl, b, f1, f2⟩
              · rw [z] at e3; exact absurd e3 (by decide)
              · rw [f1, f2]
                cases b with
                | false => exact same_go h _
                | true =>
                  rcases fits_c (N := Mm) (l := cN_ (Mc.1 11 j)) h1.2.2.2.2.2.2 h1.1 hns l2 y4 with ⟨z, _⟩ | ⟨t, ht, rfl, b, f3, f4⟩
                  · rw [z] at e4; exact absurd e4 (by decide)
                  · simp only [bq_s, bT]
                    rw [f3, f4]
                    cases b with
                    | false => exact same_go h _
                    | true =>
                      unfold f_X2_setAim f_X11_aimsChanged
                      simp only [bq_s, bT]
                      rw [o1, i_n3, pk_mul, pk_mul, nI_add, nI_add]
                      simp only [ck_nI (show a * 3 + w < 36 by omega) (by decide : (36 : Nat) < 2 ^ 31), ck_nI (show 3 * j + w < 120 by omega) (by decide : (120 : Nat) < 2 ^ 31), bm_s, nI_clamp (show a * 3 + w < 2 ^ 31 by omega), nI_clamp (show 3 * j + w < 2 ^ 31 by omega)]
                      have haa : ∀ a', a' < na → a' ≠ a → cN_ (Mc.1 16 a') ≠ j := by
                        intro a' ha' hne z
                        obtain ⟨kk, hk, x1, x2, x3⟩ := h2.2.2.2.2.2.2.2.2.2.2.2.1 a' ha'
                        rw [x1, cN_n' (by omega)] at z
                        rw [z] at x3
                        exact hne (nI_inj (by omega) (by omega) (x3.symm.trans o1))
                      obtain ⟨g1, g2, ⟨r1, r2⟩, g4, g5, g6, g7, g8⟩ := h
                      refine ⟨_, _, _, rfl, rfl, ns, nn, na, nr, nk, g1, g2, ⟨fun a' ha' w' hw' => ?_, fun q hq hq' => ?_⟩, g4, g5, g6, g7, R8_aim g8⟩
                      · show upd (Mc.1 18) (a * 3 + w) (nI r) (a' * 3 + w') = upd (Mm.1 11) (3 * j + w) (nI r) (3 * cN_ (Mc.1 16 a') + w') ∧ (upd (Mc.1 18) (a * 3 + w) (nI r) (a' * 3 + w') = -9 ∨ ((∃ r', r' < nr ∧ upd (Mc.1 18) (a * 3 + w) (nI r) (a' * 3 + w') = nI r') ∧ (∃ s', s' < ns ∧ upd (Mc.1 19) (a * 3 + w) (nI s) (a' * 3 + w') = nI s') ∧ (∃ s', s' < ns ∧ upd (Mc.1 20) (a * 3 + w) (nI t) (a' * 3 + w') = nI s') ∧
                          upd (Mc.1 19) (a * 3 + w) (nI s) (a' * 3 + w') = upd (Mm.1 12) (3 * j + w) (nI s) (3 * cN_ (Mc.1 16 a') + w') ∧ upd (Mc.1 20) (a * 3 + w) (nI t) (a' * 3 + w') = upd (Mm.1 13) (3 * j + w) (nI t) (3 * cN_ (Mc.1 16 a') + w')))
                        by_cases z : a' = a ∧ w' = w
                        · rw [z.1, z.2, o2, cN_n' (by omega)]
                          simp only [pk_us]
                          exact ⟨trivial, .inr ⟨⟨r, hr, rfl⟩, ⟨s, hs, rfl⟩, ⟨t, ht, rfl⟩, trivial, trivial⟩⟩
                        · have n1 : a' * 3 + w' ≠ a * 3 + w := by omega
                          have n2 : 3 * cN_ (Mc.1 16 a') + w' ≠ 3 * j + w := by
                            intro y
                            by_cases x : a' = a
                            · exact z ⟨x, by rw [x, o2, cN_n' (by omega)] at y; omega⟩
                            · exact haa a' ha' x (by omega)
                          simp only [pk_un n1, pk_un n2]
                          exact r1 a' ha' w' hw'
                      · show upd (Mc.1 18) (a * 3 + w) (nI r) q = -9
                        rw [pk_un (by omega)]; exact r2 q hq hq'
            · simp only [if_neg q3, bq_s, bF]; exact meet_go h 3 (by decide) rfl
