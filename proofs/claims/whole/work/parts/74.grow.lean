/-! the pure half: new nodes -/
theorem OW_up2 {na a k : Nat} {an lp rc cc rm cm rc' cc' rm' cm' : Nat → Int32} (h : OW a an lp rc cc rm cm) (hna : na = a + 1) (hinj : ∀ a', a' < na → a' ≠ a → cN_ (an a') ≠ k) (hk : cN_ (an a) = k) (h1 : ∀ a', a' ≠ a → rc' a' = rc a') (h2 : ∀ j, ¬ (a * 112 ≤ j ∧ j < a * 112 + 112) → cc' j = cc j)
    (h3 : ∀ m, m ≠ k → rm' m = rm m) (h4 : ∀ j, ¬ (k * 112 ≤ j ∧ j < k * 112 + 112) → cm' j = cm j)
    (hnew : ∃ q, rc' a = nI q ∧ rm' k = nI q ∧ (∀ i, i < q → ∀ c, c < 7 → cc' ((a * 16 + i) * 7 + c) = cm' (7 * (16 * k + i) + c)) ∧ RW q (cN_ (lp k)) (fun i c => cm' (7 * (16 * k + i) + c))) : OW na an lp rc' cc' rm' cm' := by
  intro a' ha'
  by_cases z : a' = a
  · subst z; rw [hk]; exact hnew
  · obtain ⟨q, o1, o2, o3, o4⟩ := h a' (by omega)
    have hm := hinj a' ha' z
    have hq : q ≤ 16 := o4.2.1
    generalize cN_ (an a') = m at *
    have hc : ∀ i, i < 16 → ∀ c, c < 7 → cm' (7 * (16 * m + i) + c) = cm (7 * (16 * m + i) + c) := fun i hi c hc => h4 _ (by omega)
    refine ⟨q, by rw [h1 a' z]; exact o1, by rw [h3 m hm]; exact o2, fun i hi c hc' => ?_, ?_⟩
    · rw [h2 _ (by omega), hc i (by omega) c hc']; exact o3 i hi c hc'
    · obtain ⟨w1, w2, w3, w4, w5, w6, w7⟩ := o4
      refine ⟨w1, w2, ?_, fun d hd => ?_, fun i hi => ?_, fun i hi c hc' => ?_, fun i hi => ?_⟩
      · show cm' (7 * (16 * m + 0) + 6) = -9
        rw [hc 0 (by omega) 6 (by omega)]; exact w3
      · obtain ⟨i, hi, e⟩ := w4 d hd
        refine ⟨i, hi, ?_⟩
        show cm' (7 * (16 * m + i) + 6) = _
        rw [hc i (by omega) 6 (by omega)]; exact e
      · show ∃ w, 1 ≤ w ∧ w ≤ 400 ∧ cm' (7 * (16 * m + i) + 5) = nI w
        rw [hc i (by omega) 5 (by omega)]; exact w5 i hi
      · show -100000 ≤ (cm' (7 * (16 * m + i) + c)).toInt ∧ (cm' (7 * (16 * m + i) + c)).toInt ≤ 100000
        rw [hc i (by omega) c (by omega)]; exact w6 i hi c hc'
      · show cm' (7 * (16 * m + i) + 6) = -9 ∨ ∃ d, d < _ ∧ cm' (7 * (16 * m + i) + 6) = nI d
        rw [hc i (by omega) 6 (by omega)]; exact w7 i hi
theorem RW_cg {q l : Nat} {g g' : Nat → Nat → Int32} (h : RW q l g) (e : ∀ i, i < q → ∀ c, c < 7 → g' i c = g i c) : RW q l g' := by
  obtain ⟨w1, w2, w3, w4, w5, w6, w7⟩ := h
  refine ⟨w1, w2, by rw [e 0 (by omega) 6 (by omega)]; exact w3, fun d hd => ?_, fun i hi => by rw [e i hi 5 (by omega)]; exact w5 i hi, fun i hi c hc => by rw [e i hi c (by omega)]; exact w6 i hi c hc, fun i hi => by rw [e i hi 6 (by omega)]; exact w7 i hi⟩
  obtain ⟨i, hi, x⟩ := w4 d hd
  exact ⟨i, hi, by rw [e i hi 6 (by omega)]; exact x⟩
theorem begin_ls {ns nn na : Nat} {C0 N0 : Mem} (h2 : R2' ns nn na C0 N0) : ∃ M N, f_X3_begin_7 100000 (nI 0) C0 = some M ∧ f_X12_firstOrders_7 100000 (nI 0) N0 = some N ∧ CB C0 M ∧ (∀ c, c ≠ 30 → c ≠ 31 → N.1 c = N0.1 c) ∧ N.2 = N0.2 ∧ OW na (C0.1 16) (C0.1 11) (M.1 29) (M.1 28) (N.1 30) (N.1 31) := by
  have hn : nn ≤ 40 := h2.2.2.1
  have hna : na ≤ 12 := h2.2.2.2.2.2.1
  obtain ⟨k1, k2, k3, k4, k5⟩ := h2.2.2.2.2.2.2.1
  have hT := h2.2.2.2.2.2.2.2.1
  have hC := h2.2.2.2.2.2.2.2.2.2.2.2
  refine acts_ind hC hn (fun k a => ∀ M N f f', CB C0 M → (∀ c, c ≠ 30 → c ≠ 31 → N.1 c = N0.1 c) → N.2 = N0.2 → OW a (C0.1 16) (C0.1 11) (M.1 29) (M.1 28) (N.1 30) (N.1 31) → nn - k < f' → na - a < f → ∃ M' N', f_X3_begin_7 f (nI a) M = some M' ∧ f_X12_firstOrders_7 f' (nI k) N = some N' ∧ CB C0 M' ∧ (∀ c, c ≠ 30 → c ≠ 31 → N'.1 c = N0.1 c) ∧ N'.2 = N0.2 ∧ OW na (C0.1 16) (C0.1 11) (M'.1 29) (M'.1 28) (N'.1 30) (N'.1 31)) ?_ ?_ ?_ C0 N0 100000 100000 (CB_r C0) (fun _ _ _ => rfl) rfl (fun a ha => absurd ha (Nat.not_lt_zero a)) (by omega) (by omega)
  · intro M N f f' hM hN hN2 hO hf' hf
    obtain ⟨f, rfl⟩ : ∃ g, f = g + 1 := ⟨f - 1, by omega⟩
    obtain ⟨f', rfl⟩ : ∃ g, f' = g + 1 := ⟨f' - 1, by omega⟩
    rw [f_X3_begin_7, f_X12_firstOrders_7, hM.1 107 (by decide) (by decide), hN 102 (by decide) (by decide), h2.2.2.2.1, h2.2.1, if_pos (nI_le (Nat.le_refl _) (by omega)), if_pos (nI_le (Nat.le_refl _) (by omega))]
    exact ⟨M, N, rfl, rfl, hM, hN, hN2, hO⟩
  · intro k a hk ha h3 ih M N f f' hM hN hN2 hO hf' hf
    obtain ⟨f', rfl⟩ : ∃ g, f' = g + 1 := ⟨f' - 1, by omega⟩
    rw [f_X12_firstOrders_7, hN 102 (by decide) (by decide), h2.2.1, if_neg (nI_ge hk (by omega)), ck40 (by omega), nI_clamp (by omega), hN 6 (by decide) (by decide), if_neg (by rw [← k1]; exact h3), nI_1]
    exact ih M N f f' hM hN hN2 hO (by omega) hf
  · intro k a hk ha h3 han hao ih M N f f' hM hN hN2 hO hf' hf
    obtain ⟨f, rfl⟩ : ∃ g, f = g + 1 := ⟨f - 1, by omega⟩
    obtain ⟨f', rfl⟩ : ∃ g, f' = g + 1 := ⟨f' - 1, by omega⟩
    obtain ⟨l, hl4, el⟩ : ∃ l, l ≤ 4 ∧ C0.1 11 k = nI l := ⟨_, (hT k hk).2.2.1.2.1, (hT k hk).2.2.1.1⟩
    have el' : cN_ (C0.1 11 k) = l := by rw [el]; exact cN_n' (by omega)
    have ek : cN_ (C0.1 16 a) = k := by rw [han]; exact cN_n' (by omega)
    have c16 : (sI M 29 a 0).1 16 a = nI k := by rw [sI_n (by decide), hM.1 16 (by decide) (by decide)]; exact han
    have c11 : (sI M 29 a 0).1 11 k = nI l := by rw [sI_n (by decide), hM.1 11 (by decide) (by decide)]; exact el
    have m8 : N.1 8 k = nI l := by rw [hN 8 (by decide) (by decide), ← k3]; exact el
    obtain ⟨M', e1, e2, e3, e4, e5, e6, e7⟩ := bg_c (C0 := C0) (a := a) (k := k) (l := l) (pl := fun d => C0.1 15 (k * 5 + d)) (k7 := f_X3_begin_7 f) (by omega) hl4 (fun M d x y hd => plc_eq h2 x y ha hk han (by omega)) l 0 100000 (sI M 29 a 0) (by omega) (by omega) (by rw [sI_n (by decide)]; exact hM.1 15 (by decide) (by decide)) (by rw [sI_n (by decide)]; exact hM.1 16 (by decide) (by decide)) (by rw [sI_e, pk_us]; rfl) (fun i hi => absurd hi (by omega))
    obtain ⟨N', g1, g2, g3, g4, g5⟩ := bg_m (N0 := N0) (k := k) (l := l) (pl := fun d => C0.1 15 (k * 5 + d)) (k7 := f_X12_firstOrders_7 f') (by omega) hl4 (fun N d x hd => plm_eq h2 (x 6 (by decide) (by decide)) (x 7 (by decide) (by decide)) (x 8 (by decide) (by decide)) hk (by omega)) (l + 1) 0 100000 (sI N 30 k (nI (2 * l + 1))) (by omega) (by omega) (fun c x y => by rw [sI_n x]; exact hN c x y) (fun i hi => absurd hi (by omega))
    have e1' : f_X3_begin_48 (f_X3_begin_7 f) 100000 (nI a) (nI l) 0 (sI M 29 a 0) = f_X3_begin_7 f (nI (a + 1)) M' := e1
    have g1' : f_X12_firstOrders_45 (f_X12_firstOrders_7 f') 100000 (nI k) (nI l) 0 (sI N 30 k (nI (2 * l + 1))) = f_X12_firstOrders_7 f' (nI (k + 1)) N' := g1
    rw [f_X3_begin_7, f_X12_firstOrders_7, hM.1 107 (by decide) (by decide), hN 102 (by decide) (by decide), h2.2.2.2.1, h2.2.1, if_neg (nI_ge ha (by omega)), if_neg (nI_ge hk (by omega)), ck_nI (by omega) (by omega), ck_nI (by omega) (by omega), nI_clamp (show a < 2 ^ 31 by omega), c16, ck40 (by omega), nI_clamp (show k < 2 ^ 31 by omega), c11, e1', ck40 (by omega), hN 6 (by decide) (by decide), if_pos (by rw [← k1]; exact h3), ck40 (by omega), ck40 (by omega), m8, i_n2, pk_mul, nI_1, g1']
    refine ih M' N' f f' ⟨fun c x y => by rw [e2 c x y, sI_n y]; exact hM.1 c x y, by rw [e3]; exact hM.2⟩ (fun c x y => by rw [g2 c y, sI_n x]; exact hN c x y) (by rw [g3]; exact hN2) ?_ (by omega) (by omega)
    refine OW_up2 (a := a) (k := k) hO rfl (fun a' ha' hne => inj_a h2 ha hk han hao a' (by omega) hne) ek (fun a' ha' => by rw [e5 a' ha', sI_e, pk_un ha']) (fun j hj => by rw [e6 j hj, sI_n (by decide)]) (fun m hm => by rw [g2 30 (by decide), sI_e, pk_un hm]) (fun j hj => by rw [g4 j hj, sI_n (by decide)]) ⟨2 * l + 1, e4, by rw [g2 30 (by decide), sI_e, pk_us], fun i hi c hc => by rw [e7 i hi c hc, g5 i hi c hc], ?_⟩
    rw [el']
    have R := rw0_ok (pl := fun d => C0.1 15 (k * 5 + d)) hl4 (fun d hd => by
      obtain ⟨p, hp, ep⟩ := pl_b hT h2.2.2.2.2.2.2.2.2.2.2.1 k hk d (by omega)
      exact ⟨p, by omega, ep⟩)
    exact RW_cg R (fun i hi c hc => g5 i hi c hc)
/-! a node hung into the tree -/
theorem inh99 {n l ps : Nat} {x2 : Int32} {g : Nat → Nat} (hn : n < 40) (hl : l ≤ 4) (hps : ps ≤ 5) (hg : ∀ d, d < ps → x2 * 5 + nI d = nI (g d) ∧ g d < n * 5) : ∀ m d f M, d + m = l + 1 → m < f → ∃ M', f_X2_inherit_99 f (nI n) x2 (nI l) (nI ps) (nI d) M = some M' ∧ (∀ c, c ≠ 15 → M'.1 c = M.1 c) ∧ M'.2 = M.2 ∧ (∀ z, ¬ (n * 5 + d ≤ z ∧ z < n * 5 + (l + 1)) → M'.1 15 z = M.1 15 z) ∧ (∀ e, d ≤ e → e ≤ l → (e < ps → M'.1 15 (n * 5 + e) = M.1 15 (g e)) ∧ (¬ e < ps → M'.1 15 (n * 5 + e) = nI n)) := by
  intro m
  induction m with
  | zero =>
    intro d f M hd hf
    obtain ⟨f, rfl⟩ : ∃ z, f = z + 1 := ⟨f - 1, by omega⟩
    rw [f_X2_inherit_99, if_pos (nI_lt (by omega) (by omega))]
    exact ⟨M, rfl, fun _ _ => rfl, rfl, fun _ _ => rfl, fun e h1 h2 => absurd h2 (by omega)⟩
  | succ m ih =>
    intro d f M hd hf
    obtain ⟨f, rfl⟩ : ∃ z, f = z + 1 := ⟨f - 1, by omega⟩
    rw [f_X2_inherit_99, if_neg (nI_nlt (by omega) (by omega)), i_n5, pk_mul, nI_add, nI_1]
    have go : ∀ v, ((d < ps → v = M.1 15 (g d)) ∧ (¬ d < ps → v = nI n)) → ∃ M', f_X2_inherit_99 f (nI n) x2 (nI l) (nI ps) (nI (d + 1)) (sI M 15 (n * 5 + d) v) = some M' ∧ (∀ c, c ≠ 15 → M'.1 c = M.1 c) ∧ M'.2 = M.2 ∧ (∀ z, ¬ (n * 5 + d ≤ z ∧ z < n * 5 + (l + 1)) → M'.1 15 z = M.1 15 z) ∧ (∀ e, d ≤ e → e ≤ l → (e < ps → M'.1 15 (n * 5 + e) = M.1 15 (g e)) ∧ (¬ e < ps → M'.1 15 (n * 5 + e) = nI n)) := by
      intro v hv
      obtain ⟨M', i1, i2, i3, i4, i5⟩ := ih (d + 1) f (sI M 15 (n * 5 + d) v) (by omega) (by omega)
      refine ⟨M', i1, fun c a => by rw [i2 c a, sI_n a], i3, fun z hz => by rw [i4 z (by omega), sI_e, pk_un (by omega)], fun e h1 h2 => ?_⟩
      by_cases y : e = d
      · subst y
        have ee : M'.1 15 (n * 5 + e) = v := by rw [i4 _ (by omega), sI_e, pk_us]
        rw [ee]; exact hv
      · obtain ⟨w1, w2⟩ := i5 e (by omega) h2
        refine ⟨fun q => ?_, w2⟩
        rw [w1 q, sI_e, pk_un]
        have := (hg e q).2
        omega
    by_cases q : ps ≤ d
    · rw [if_pos (nI_le q (by omega)), ck_nI (by omega) (by omega), nI_clamp (by omega)]
      exact go (nI n) ⟨fun z => absurd z (by omega), fun _ => rfl⟩
    · have hgd := hg d (by omega)
      have e5 : x2 * nI 5 + nI d = nI (g d) := hgd.1
      rw [if_neg (nI_ge (by omega) (by omega)), e5, ck_nI (by omega) (by omega), ck_nI (by omega) (by omega), nI_clamp (by omega), nI_clamp (by omega)]
      exact go _ ⟨fun _ => rfl, fun z => absurd (by omega) z⟩
theorem inh10 {n l j L : Nat} {b : Bool} {kd : Nat → Int32} (hn : n < 40) (hj : j < n) (hl : l ≤ 4) (hL : L ≤ 4) (hb : ∀ M, M.1 9 = kd → f_X2_isLoop M (nI j) = some b) : ∀ m d f M, d + m = l → m < f → M.1 9 = kd → M.1 11 j = nI L → ∃ M', f_X2_inherit_10 f (nI n) (nI j) (nI l) (nI d) M = f_X2_inherit_99 100000 (nI n) (nI j) (nI l) (nI (L + 1)) (nI 0) M' ∧ (∀ c, c ≠ 14 → M'.1 c = M.1 c) ∧ M'.2 = M.2 ∧ (∀ z, ¬ (n * 4 + d ≤ z ∧ z < n * 4 + l) → M'.1 14 z = M.1 14 z) ∧ (∀ e, d ≤ e → e < l → (e + 1 = l ∧ b = true → M'.1 14 (n * 4 + e) = nI j) ∧ (¬ (e + 1 = l ∧ b = true) → M'.1 14 (n * 4 + e) = M.1 14 (j * 4 + e))) := by
  intro m
  induction m with
  | zero =>
    intro d f M hd hf h9 h11
    obtain ⟨f, rfl⟩ : ∃ z, f = z + 1 := ⟨f - 1, by omega⟩
    rw [f_X2_inherit_10, if_pos (nI_le (by omega) (by omega)), if_neg (nN9 (by omega)), ck40 (by omega), nI_clamp (by omega), h11, nI_1]
    exact ⟨M, rfl, fun _ _ => rfl, rfl, fun _ _ => rfl, fun e h1 h2 => absurd h2 (by omega)⟩
  | succ m ih =>
    intro d f M hd hf h9 h11
    obtain ⟨f, rfl⟩ : ∃ z, f = z + 1 := ⟨f - 1, by omega⟩
    have go : ∀ v, ((d + 1 = l ∧ b = true → v = nI j) ∧ (¬ (d + 1 = l ∧ b = true) → v = M.1 14 (j * 4 + d))) → ∃ M', f_X2_inherit_10 f (nI n) (nI j) (nI l) (nI (d + 1)) (sI M 14 (n * 4 + d) v) = f_X2_inherit_99 100000 (nI n) (nI j) (nI l) (nI (L + 1)) (nI 0) M' ∧ (∀ c, c ≠ 14 → M'.1 c = M.1 c) ∧ M'.2 = M.2 ∧ (∀ z, ¬ (n * 4 + d ≤ z ∧ z < n * 4 + l) → M'.1 14 z = M.1 14 z) ∧ (∀ e, d ≤ e → e < l → (e + 1 = l ∧ b = true → M'.1 14 (n * 4 + e) = nI j) ∧ (¬ (e + 1 = l ∧ b = true) → M'.1 14 (n * 4 + e) = M.1 14 (j * 4 + e))) := by
      intro v hv
      obtain ⟨M', i1, i2, i3, i4, i5⟩ := ih (d + 1) f (sI M 14 (n * 4 + d) v) (by omega) (by omega) (by rw [sI_n (by decide)]; exact h9) (by rw [sI_n (by decide)]; exact h11)
      refine ⟨M', i1, fun c a => by rw [i2 c a, sI_n a], i3, fun z hz => by rw [i4 z (by omega), sI_e, pk_un (by omega)], fun e h1 h2 => ?_⟩
      by_cases y : e = d
      · subst y
        have ee : M'.1 14 (n * 4 + e) = v := by rw [i4 _ (by omega), sI_e, pk_us]
        rw [ee]; exact hv
      · obtain ⟨w1, w2⟩ := i5 e (by omega) h2
        refine ⟨w1, fun q => ?_⟩
        rw [w2 q, sI_e, pk_un (by omega)]
    have t37 : f_X2_inherit_37 (f_X2_inherit_10 f) (nI n) (nI j) (nI l) (nI d) true M = f_X2_inherit_10 f (nI n) (nI j) (nI l) (nI (d + 1)) (sI M 14 (n * 4 + d) (nI j)) := by
      unfold f_X2_inherit_37
      rw [bT, i_n4, pk_mul, nI_add, ck_nI (by omega) (by omega), nI_clamp (by omega), nI_1]
    have f37 : f_X2_inherit_37 (f_X2_inherit_10 f) (nI n) (nI j) (nI l) (nI d) false M = f_X2_inherit_10 f (nI n) (nI j) (nI l) (nI (d + 1)) (sI M 14 (n * 4 + d) (M.1 14 (j * 4 + d))) := by
      unfold f_X2_inherit_37
      rw [bF, i_n4, pk_mul, pk_mul, nI_add, nI_add, ck_nI (by omega) (by omega), ck_nI (by omega) (by omega), nI_clamp (by omega), nI_clamp (by omega), nI_1]
    unfold f_X2_inherit_10 f_X2_inherit_36
    rw [if_neg (nI_ge (by omega) (by omega)), t37, f37, i_n1, pk_sub (by omega)]
    by_cases q : d + 1 = l
    · rw [if_pos (show nI d = nI (l - 1) from ix (f := nI) (by omega)), hb M h9, bq_s]
      cases b with
      | true => rw [bT]; exact go _ ⟨fun _ => rfl, fun z => absurd ⟨q, rfl⟩ z⟩
      | false => rw [bF]; exact go _ ⟨fun z => absurd z.2 (by decide), fun _ => rfl⟩
    · rw [if_neg (fun z => q (by have := nI_inj (by omega) (by omega) z; omega))]
      exact go _ ⟨fun z => absurd z.1 q, fun _ => rfl⟩
/-- the parent of a new node: the top, or a node that opens -/
def PaO (n : Nat) (kd : Nat → Int32) (p : Int32) (hp : Nat) : Prop := (p = -9 ∧ hp = 40) ∨ (p = nI hp ∧ hp < n ∧ kd hp ≠ 3)
theorem PaO_pv {n hp : Nat} {kd : Nat → Int32} {p : Int32} (hn : n ≤ 40) (h : PaO n kd p hp) : pv hp = p := by
  unfold pv
  rcases h with ⟨h1, h2⟩ | ⟨h1, h2, _⟩
  · rw [if_pos h2, h1]
  · rw [if_neg (by omega), h1]
theorem pv_inj {a b : Nat} (ha : a ≤ 40) (hb : b ≤ 40) (h : pv a = pv b) : a = b := by
  unfold pv at h
  by_cases x : a = 40
  · by_cases y : b = 40
    · omega
    · rw [if_pos x, if_neg y] at h; exact absurd h.symm (nN9 (by omega))
  · by_cases y : b = 40
    · rw [if_neg x, if_pos y] at h; exact absurd h (nN9 (by omega))
    · rw [if_neg x, if_neg y] at h; exact nI_inj (by omega) (by omega) h
theorem nx_e1 {pa : Nat → Int32} {n c : Nat} {p q : Int32} (hc : c ≤ n) (hq : q ≠ p) : cv (n + 1) (nx (upd pa n p) q (n + 1 - c) c) = cv n (nx pa q (n - c) c) := by
  obtain ⟨a1, a2, a3, a4⟩ := nx_spec pa q (n - c) c
  by_cases z : nx pa q (n - c) c < n
  · have e : nx (upd pa n p) q (n + 1 - c) c = nx pa q (n - c) c := nx_uniq a1 (by omega) (fun _ => by rw [pk_un (by omega)]; exact a3 (by omega)) (fun j h1 h2 => by rw [pk_un (by omega)]; exact a4 j h1 h2)
    rw [e, cv_lt z, cv_lt (by omega)]
  · have e : nx (upd pa n p) q (n + 1 - c) c = n + 1 := nx_uniq (by omega) (by omega) (fun h => absurd h (by omega)) (fun j h1 h2 => by
      by_cases y : j = n
      · rw [y, pk_us]; exact fun w => hq w.symm
      · rw [pk_un y]; exact a4 j h1 (by omega))
    rw [e, cv_ge (by omega), cv_ge (by omega)]
theorem nx_e2 {pa : Nat → Int32} {n c : Nat} {p : Int32} (hc : c ≤ n) : nx (upd pa n p) p (n + 1 - c) c = nx pa p (n - c) c := by
  obtain ⟨a1, a2, a3, a4⟩ := nx_spec pa p (n - c) c
  refine nx_uniq a1 (by omega) (fun _ => ?_) (fun j h1 h2 => by rw [pk_un (by omega)]; exact a4 j h1 h2)
  by_cases z : nx pa p (n - c) c = n
  · rw [z, pk_us]
  · rw [pk_un z]; exact a3 (by omega)
