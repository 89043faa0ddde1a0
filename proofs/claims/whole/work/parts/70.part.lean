/-! the pure half: part, join -/
theorem pl_b {ns nn : Nat} {kd pa lp fi se pl : Nat → Int32} (hT : TW ns nn kd pa lp fi se) (hPl : PW nn pa lp pl) : ∀ k, k < nn → ∀ d, d ≤ cN_ (lp k) → ∃ p, p ≤ k ∧ pl (k * 5 + d) = nI p := by
  intro k
  induction k using Nat.strongRecOn with
  | ind k ih =>
    intro hk d hd
    by_cases q : pa k ≠ -9 ∧ d ≤ cN_ (lp (cN_ (pa k)))
    · rw [(hPl k hk d hd).1 q]
      rcases (hT k hk).2.1 with z | ⟨z1, z2, z3⟩
      · exact absurd z q.1
      · obtain ⟨p, hp, e⟩ := ih (cN_ (pa k)) z2 (by omega) d q.2
        exact ⟨p, by omega, e⟩
    · exact ⟨k, Nat.le_refl _, (hPl k hk d hd).2 q⟩
section
variable {ns nn na : Nat} {C0 N0 M N : Mem}
theorem plc_eq (h2 : R2' ns nn na C0 N0) (e15 : M.1 15 = C0.1 15) (e16 : M.1 16 = C0.1 16) {a k d : Nat} (ha : a < na) (hk : k < nn) (han : C0.1 16 a = nI k) (hd : d ≤ 4) : f_X2_placeOf M (nI a) (nI d) = some (C0.1 15 (k * 5 + d)) := by
  have hn : nn ≤ 40 := h2.2.2.1
  have hna : na ≤ 12 := h2.2.2.2.2.2.1
  unfold f_X2_placeOf
  rw [ck_nI (by omega) (by omega), nI_clamp (by omega), e16, han, i_n5, pk_mul, nI_add, ck_nI (by omega) (by omega), nI_clamp (by omega), e15]
theorem plm_eq (h2 : R2' ns nn na C0 N0) (e6 : N.1 6 = N0.1 6) (e7 : N.1 7 = N0.1 7) (e8 : N.1 8 = N0.1 8) {k d : Nat} (hk : k < nn) (hd : d ≤ cN_ (C0.1 11 k)) : f_X12_placeOf N (nI k) (nI d) = some (C0.1 15 (k * 5 + d)) := by
  have hn : nn ≤ 40 := h2.2.2.1
  obtain ⟨k1, k2, k3, k4, k5⟩ := h2.2.2.2.2.2.2.1
  exact plOf_eq (pl := C0.1 15) h2.2.2.2.2.2.2.2.1 h2.2.2.2.2.2.2.2.2.2.2.1 hn (by rw [e6, k1]) (by rw [e7, k2]) (by rw [e8, k3]) k 100000 hk (by omega) hd
theorem ra_eq {a i d : Nat} (ha : a < 12) (i1 : 1 ≤ i) (i2 : i < 16) (h : f_X7_loopRow M (nI a) (nI d) = some (nI ((a * 16 + i) * 7))) : f_X7_rowAhead M (nI a) (nI d) = some (nI ((a * 16 + (i - 1)) * 7)) := by
  unfold f_X7_rowAhead f_X7_at
  rw [h, bq_s, bq_s, i_n16, i_n7, i_n0, pk_mul, nI_add, pk_mul, if_neg (nI_ge (by omega) (by omega)), pk_sub (by omega)]
  congr 2
  omega
theorem stB_k {C1 : Mem} (e11 : C1.1 11 = C0.1 11) (e14 : C1.1 14 = C0.1 14) (q k : Nat) : stB C1 q k = stB C0 q k := by unfold stB; rw [e11, e14]
/-- one number of a row changes, in both -/
theorem OJ_num (h2 : R2' ns nn na C0 N0) (hJ : OJ na C0 N0 M N) {a k i qq l : Nat} {x : Int32} (ha : a < na) (hk : k < nn) (han : C0.1 16 a = nI k) (hao : C0.1 17 k = nI a) (o1 : M.1 29 a = nI qq) (o2 : N.1 30 k = nI qq) (o3 : ∀ i, i < qq → ∀ c, c < 7 → M.1 28 ((a * 16 + i) * 7 + c) = N.1 31 (7 * (16 * k + i) + c)) (el' : cN_ (C0.1 11 k) = l) (o4 : RW qq l (fun i c => N.1 31 (7 * (16 * k + i) + c))) (hi : i < qq)
    (hx : -100000 ≤ x.toInt ∧ x.toInt ≤ 100000) : OJ na C0 N0 (sI M 28 ((a * 16 + i) * 7) x) (sI N 31 (7 * (16 * k + i)) x) := by
  have hn : nn ≤ 40 := h2.2.2.1
  have hna : na ≤ 12 := h2.2.2.2.2.2.1
  have hqq : qq ≤ 16 := o4.2.1
  have ek : cN_ (C0.1 16 a) = k := by rw [han]; exact cN_n' (by omega)
  refine ⟨CB_s hJ.1, ⟨fun c a b => by rw [sI_n b]; exact hJ.2.1.1 c a b, hJ.2.1.2.1, fun j hj => by rw [sI_e, pk_un (by omega)]; exact hJ.2.1.2.2.1 j hj, fun j hj => by rw [sI_n (by decide)]; exact hJ.2.1.2.2.2 j hj⟩, ?_⟩
  rw [sI_n (by decide), sI_e, sI_n (by decide), sI_e]
  refine OW_upd (a := a) (k := k) hJ.2.2 (inj_a h2 ha hk han hao) ek (fun a' _ => rfl) (fun z hz => pk_un (by omega)) (fun m _ => rfl) (fun z hz => pk_un (by omega)) ⟨qq, o1, o2, fun i' hi' c hc => ?_, ?_⟩
  · by_cases z : i' = i ∧ c = 0
    · rw [z.1, z.2, Nat.add_zero, Nat.add_zero, pk_us, pk_us]
    · rw [pk_un (by omega), pk_un (by omega)]; exact o3 i' hi' c hc
  · rw [el']
    refine RW_num o4 (fun i' hi' => ?_) (fun i' hi' => ?_) (fun i' hi' c hc => ?_)
    · rw [pk_un (by omega)]; exact o4.2.2.2.2.1 i' hi'
    · rw [pk_un (by omega)]
    · by_cases z : i' = i ∧ c = 0
      · rw [z.1, z.2, Nat.add_zero, pk_us]; exact hx
      · rw [pk_un (by omega)]; exact o4.2.2.2.2.2.1 i' hi' c hc
/-- part: the check (on C1), the change, the reference's way -/
theorem part_ls {C1 : Mem} (h2 : R2' ns nn na C0 N0) (h21 : R2' ns nn na C1 N0) (hC1 : ∀ c, c ≠ 108 → c ≠ 109 → C1.1 c = C0.1 c) (hO : OW na (C0.1 16) (C0.1 11) (C0.1 29) (C0.1 28) (N0.1 30) (N0.1 31)) {q : Nat} (hq : q < nn) (hql : Lq (N0.1 6) q) {d : Nat} (hd : d < 4) (ed : C0.1 11 q = nI d) :
    (∃ M N, f_X3_partFits_12 100000 (nI q) (nI d) (nI 0) C1 = some true ∧ f_X3_partRows_12 100000 (nI q) (nI d) (nI 0) C0 = some M ∧ f_X12_part_37 100000 (nI q) (nI d) (nI 0) N0 = bd (f_X12_turned N) (fun r M => some (r, M)) ∧ OJ na C0 N0 M N) ∨
    (∃ N, f_X3_partFits_12 100000 (nI q) (nI d) (nI 0) C1 = some false ∧ f_X12_part_37 100000 (nI q) (nI d) (nI 0) N0 = bm (f_X12_giveTried N) (fun M => some (-6, M)) ∧ MB N0 N) := by
  have hn : nn ≤ 40 := h2.2.2.1
  have hna : na ≤ 12 := h2.2.2.2.2.2.1
  obtain ⟨k1, k2, k3, k4, k5⟩ := h2.2.2.2.2.2.2.1
  have hT := h2.2.2.2.2.2.2.2.1
  have hC := h2.2.2.2.2.2.2.2.2.2.2.2
  have ed' : cN_ (C0.1 11 q) = d := by rw [ed]; exact cN_n' (by omega)
  refine acts_ind hC hn (fun k a => ∀ M N f fc f', OJ na C0 N0 M N → (∀ j, a * 112 ≤ j → M.1 28 j = C0.1 28 j) → (∀ a', a ≤ a' → M.1 29 a' = C0.1 29 a') → nn - k < f' → na - a < f → na - a < fc →
    (∃ M' N', f_X3_partFits_12 fc (nI q) (nI d) (nI a) C1 = some true ∧ f_X3_partRows_12 f (nI q) (nI d) (nI a) M = some M' ∧ f_X12_part_37 f' (nI q) (nI d) (nI k) N = bd (f_X12_turned N') (fun r M => some (r, M)) ∧ OJ na C0 N0 M' N') ∨
    (∃ N', f_X3_partFits_12 fc (nI q) (nI d) (nI a) C1 = some false ∧ f_X12_part_37 f' (nI q) (nI d) (nI k) N = bm (f_X12_giveTried N') (fun M => some (-6, M)) ∧ MB N0 N')) ?_ ?_ ?_ C0 N0 100000 100000 100000 ⟨CB_r C0, MB_r N0, hO⟩ (fun _ _ => rfl) (fun _ _ => rfl) (by omega) (by omega) (by omega)
  · intro M N f fc f' hJ hu hv hf' hf hfc
    obtain ⟨f, rfl⟩ : ∃ g, f = g + 1 := ⟨f - 1, by omega⟩
    obtain ⟨fc, rfl⟩ : ∃ g, fc = g + 1 := ⟨fc - 1, by omega⟩
    obtain ⟨f', rfl⟩ : ∃ g, f' = g + 1 := ⟨f' - 1, by omega⟩
    refine .inl ⟨M, N, ?_, ?_, ?_, hJ⟩
    · rw [f_X3_partFits_12, h21.2.2.2.1, if_pos (nI_le (Nat.le_refl _) (by omega))]
    · rw [f_X3_partRows_12, hJ.1.1 107 (by decide) (by decide), h2.2.2.2.1, if_pos (nI_le (Nat.le_refl _) (by omega))]
    · rw [f_X12_part_37, hJ.2.1.1 102 (by decide) (by decide), h2.2.1, if_pos (nI_le (Nat.le_refl _) (by omega))]
  · intro k a hk ha h3 ih M N f fc f' hJ hu hv hf' hf hfc
    obtain ⟨f', rfl⟩ : ∃ g, f' = g + 1 := ⟨f' - 1, by omega⟩
    rw [f_X12_part_37, hJ.2.1.1 102 (by decide) (by decide), h2.2.1, if_neg (nI_ge hk (by omega)), ai_eq h2 (hJ.2.1.1 6 (by decide) (by decide)) (hJ.2.1.1 7 (by decide) (by decide)) hq hql hk, if_neg (by rw [← k1]; exact h3), bq_s, bF, nI_1]
    exact ih M N f fc f' hJ hu hv (by omega) hf hfc
  · intro k a hk ha h3 han hao ih M N f fc f' hJ hu hv hf' hf hfc
    obtain ⟨f, rfl⟩ : ∃ g, f = g + 1 := ⟨f - 1, by omega⟩
    obtain ⟨fc, rfl⟩ : ∃ g, fc = g + 1 := ⟨fc - 1, by omega⟩
    obtain ⟨f', rfl⟩ : ∃ g, f' = g + 1 := ⟨f' - 1, by omega⟩
    have han1 : C1.1 16 a = nI k := by rw [hC1 16 (by decide) (by decide)]; exact han
    rw [f_X3_partFits_12, f_X3_partRows_12, f_X12_part_37, h21.2.2.2.1, hJ.1.1 107 (by decide) (by decide), hJ.2.1.1 102 (by decide) (by decide), h2.2.2.2.1, h2.2.1, if_neg (nI_ge ha (by omega)), if_neg (nI_ge ha (by omega)), if_neg (nI_ge hk (by omega)), ai_eq h2 (hJ.2.1.1 6 (by decide) (by decide)) (hJ.2.1.1 7 (by decide) (by decide)) hq hql hk, if_pos (by rw [← k1]; exact h3), st_eq h2 hJ.1 ha hq hk han, st_eq h21 (CB_r C1) ha hq hk han1, stB_k (hC1 11 (by decide) (by decide)) (hC1 14 (by decide) (by decide)), bq_s, bq_s, bq_s]
    simp only [nI_1]
    cases es : stB C0 q k with
    | false =>
      rw [bF, bF, bF]
      exact ih M N f fc f' hJ (fun j hj => hu j (by omega)) (fun a' ha' => hv a' (by omega)) (by omega) (by omega) (by omega)
    | true =>
      have hst := of_decide_eq_true es
      rw [ed'] at hst
      obtain ⟨qq, o1, o2, o3, o4⟩ := hJ.2.2 a ha
      have ek : cN_ (C0.1 16 a) = k := by rw [han]; exact cN_n' (by omega)
      rw [ek] at o2 o3 o4
      have hqq : qq ≤ 16 := o4.2.1
      have hl4 : cN_ (C0.1 11 k) ≤ 4 := (hT k hk).2.2.1.2.1
      have c28 : ∀ i, i < qq → ∀ c, c < 7 → C1.1 28 ((a * 16 + i) * 7 + c) = N.1 31 (7 * (16 * k + i) + c) := fun i hi c hc => by
        rw [hC1 28 (by decide) (by decide), ← hu _ (by omega)]; exact o3 i hi c hc
      have c29 : C1.1 29 a = nI qq := by rw [hC1 29 (by decide) (by decide), ← hv a (Nat.le_refl _)]; exact o1
      obtain ⟨i, i1, i2, i3, i4, i5⟩ := (lr_eq (M := M) (N := N) (d := d) (by omega) (by omega) hl4 o1 o2 o3 o4).1 hst.1
      obtain ⟨i', j1, j2, j3, j4, j5⟩ := (lr_eq (M := C1) (N := N) (d := d) (by omega) (by omega) hl4 c29 o2 c28 o4).1 hst.1
      have ei : i' = i := by
        rw [i4] at j4
        exact (nI_inj (by omega) (by omega) (Option.some.inj j4)).symm
      subst ei
      obtain ⟨p, hp, ep⟩ := pl_b hT h2.2.2.2.2.2.2.2.2.2.2.1 k hk (d + 1) (by omega)
      have e0 : M.1 28 ((a * 16 + (i' - 1)) * 7) = N.1 31 (7 * (16 * k + (i' - 1))) := o3 (i' - 1) (by omega) 0 (by omega)
      have e1 : C1.1 28 ((a * 16 + (i' - 1)) * 7) = N.1 31 (7 * (16 * k + (i' - 1))) := c28 (i' - 1) (by omega) 0 (by omega)
      have hb : -100000 ≤ (N.1 31 (7 * (16 * k + (i' - 1)))).toInt ∧ (N.1 31 (7 * (16 * k + (i' - 1)))).toInt ≤ 100000 := o4.2.2.2.2.2.1 (i' - 1) (by omega) 0 (by omega)
      have c100 : (100 : Int32).toInt = 100 := by decide
      have d100 : (100 : Int32).toInt64 = 100 := by decide
      obtain ⟨L1, L2⟩ := lin64 (a := 100) (x := N.1 31 (7 * (16 * k + (i' - 1)))) (y := nI p) (by omega) hb (by rw [nI_toInt (by omega)]; omega)
      rw [d100] at L1
      unfold f_X3_parted f_X12_rowAt f_X11_rowNumberFits
      rw [bT, bT, bT, ra_eq (by omega) i1 (by omega) i3, ra_eq (by omega) i1 (by omega) j3, i4, bq_s, bq_s, bq_s, if_neg (nI_pos (by omega)), if_neg (nI_pos (by omega)), i_n1, pk_sub (by omega), i_n16, i_n7]
      simp only [pk_mul, nI_add, bq_s]
      rw [plc_eq h21 rfl rfl ha hk han1 (by omega), plc_eq h2 (hJ.1.1 15 (by decide) (by decide)) (hJ.1.1 16 (by decide) (by decide)) ha hk han (by omega), plm_eq h2 (hJ.2.1.1 6 (by decide) (by decide)) (hJ.2.1.1 7 (by decide) (by decide)) (hJ.2.1.1 8 (by decide) (by decide)) hk (by omega), hC1 15 (by decide) (by decide), ep]
      simp only [bq_s, ck_nI (show (a * 16 + (i' - 1)) * 7 < 1344 by omega) (by decide : (1344 : Nat) < 2 ^ 31), ck_nI (show 7 * (16 * k + (i' - 1)) < 4480 by omega) (by decide : (4480 : Nat) < 2 ^ 31), nI_clamp (show (a * 16 + (i' - 1)) * 7 < 2 ^ 31 by omega), nI_clamp (show 7 * (16 * k + (i' - 1)) < 2 ^ 31 by omega)]
      rw [e0, e1, L1, in_w (-100000) 100000, t64_32]
      rcases wi_c (100 * N.1 31 (7 * (16 * k + (i' - 1))) + nI p) (-100000) 100000 with w | w
      · have w2 := w
        rw [wi_d] at w2
        have w3 := of_decide_eq_true (Option.some.inj w2)
        rw [w]
        simp only [bq_s, bT]
        have hx : -100000 ≤ (100 * N.1 31 (7 * (16 * k + (i' - 1))) + nI p).toInt ∧ (100 * N.1 31 (7 * (16 * k + (i' - 1))) + nI p).toInt ≤ 100000 := by
          have w4 := w3.1
          have w5 := w3.2
          rw [Int32.le_iff_toInt_le] at w4 w5
          have c1 : (-100000 : Int32).toInt = -100000 := by decide
          have c2 : (100000 : Int32).toInt = 100000 := by decide
          omega
        exact ih _ _ f fc f' (OJ_num h2 hJ ha hk han hao o1 o2 o3 rfl o4 (by omega) hx) (fun j hj => by rw [sI_e, pk_un (by omega)]; exact hu j (by omega)) (fun a' ha' => by rw [sI_n (by decide)]; exact hv a' (by omega)) (by omega) (by omega) (by omega)
      · rw [w]
        simp only [bq_s, bF]
        exact .inr ⟨N, trivial, rfl, hJ.2.1⟩
/-- the first act in a loop -/
theorem fa_ls (h2 : R2' ns nn na C0 N0) (hM : CB C0 M) (e107 : M.1 107 = C0.1 107) (e6 : N.1 6 = N0.1 6) (e7 : N.1 7 = N0.1 7) (e102 : N.1 102 = N0.1 102) {q : Nat} (hq : q < nn) (hql : Lq (N0.1 6) q) :
    (∃ a k, a < na ∧ k < nn ∧ C0.1 16 a = nI k ∧ C0.1 17 k = nI a ∧ stB C0 q k = true ∧ f_X2_firstActIn M (nI q) = some (nI a) ∧ f_X12_firstActIn N (nI q) = some (nI k)) ∨ (f_X2_firstActIn M (nI q) = some (-9) ∧ f_X12_firstActIn N (nI q) = some (-9)) := by
  have hn : nn ≤ 40 := h2.2.2.1
  have hna : na ≤ 12 := h2.2.2.2.2.2.1
  obtain ⟨k1, k2, k3, k4, k5⟩ := h2.2.2.2.2.2.2.1
  have hC := h2.2.2.2.2.2.2.2.2.2.2.2
  unfold f_X2_firstActIn f_X12_firstActIn
  rw [i_n0]
  refine acts_ind hC hn (fun k a => ∀ f f', nn - k < f' → na - a < f → (∃ a' k', a' < na ∧ k' < nn ∧ C0.1 16 a' = nI k' ∧ C0.1 17 k' = nI a' ∧ stB C0 q k' = true ∧ f_X2_firstActIn_2 f (nI q) (nI a) M = some (nI a') ∧ f_X12_firstActIn_2 f' (nI q) (nI k) N = some (nI k')) ∨ (f_X2_firstActIn_2 f (nI q) (nI a) M = some (-9) ∧ f_X12_firstActIn_2 f' (nI q) (nI k) N = some (-9))) ?_ ?_ ?_ 100000 100000 (by omega) (by omega)
  · intro f f' hf' hf
    obtain ⟨f, rfl⟩ : ∃ g, f = g + 1 := ⟨f - 1, by omega⟩
    obtain ⟨f', rfl⟩ : ∃ g, f' = g + 1 := ⟨f' - 1, by omega⟩
    rw [f_X2_firstActIn_2, f_X12_firstActIn_2, e107, e102, h2.2.2.2.1, h2.2.1, if_pos (nI_le (Nat.le_refl _) (by omega)), if_pos (nI_le (Nat.le_refl _) (by omega))]
    exact .inr ⟨rfl, rfl⟩
  · intro k a hk ha h3 ih f f' hf' hf
    obtain ⟨f', rfl⟩ : ∃ g, f' = g + 1 := ⟨f' - 1, by omega⟩
    rw [f_X12_firstActIn_2, e102, h2.2.1, if_neg (nI_ge hk (by omega)), ai_eq h2 e6 e7 hq hql hk, if_neg (by rw [← k1]; exact h3), bq_s, bF, nI_1]
    exact ih f f' (by omega) hf
  · intro k a hk ha h3 han hao ih f f' hf' hf
    obtain ⟨f, rfl⟩ : ∃ g, f = g + 1 := ⟨f - 1, by omega⟩
    obtain ⟨f', rfl⟩ : ∃ g, f' = g + 1 := ⟨f' - 1, by omega⟩
    rw [f_X2_firstActIn_2, f_X12_firstActIn_2, e107, e102, h2.2.2.2.1, h2.2.1, if_neg (nI_ge ha (by omega)), if_neg (nI_ge hk (by omega)), ai_eq h2 e6 e7 hq hql hk, if_pos (by rw [← k1]; exact h3), st_eq h2 hM ha hq hk han, bq_s, bq_s, nI_1, nI_1]
    cases es : stB C0 q k with
    | false =>
      rw [bF, bF]
      exact ih f f' (by omega) (by omega)
    | true =>
      rw [bT, bT]
      exact .inl ⟨a, k, ha, hk, han, hao, es, rfl, rfl⟩
theorem join_ls (h2 : R2' ns nn na C0 N0) (hO : OW na (C0.1 16) (C0.1 11) (C0.1 29) (C0.1 28) (N0.1 30) (N0.1 31)) {q : Nat} (hq : q < nn) (hql : Lq (N0.1 6) q) {d : Nat} (hd : d < 4) (ed : C0.1 11 q = nI d) {x : Int32} (hx : -100000 ≤ x.toInt ∧ x.toInt ≤ 100000) :
    ∃ M N, f_X3_joinRows_42 100000 (nI q) (nI d) x (nI 0) C0 = some M ∧ f_X12_join_109 100000 (nI q) (nI d) x (nI 0) N0 = bd (f_X12_turned N) (fun r M => some (r, M)) ∧ OJ na C0 N0 M N := by
  have hn : nn ≤ 40 := h2.2.2.1
  have hna : na ≤ 12 := h2.2.2.2.2.2.1
  obtain ⟨k1, k2, k3, k4, k5⟩ := h2.2.2.2.2.2.2.1
  have hT := h2.2.2.2.2.2.2.2.1
  have hC := h2.2.2.2.2.2.2.2.2.2.2.2
  have ed' : cN_ (C0.1 11 q) = d := by rw [ed]; exact cN_n' (by omega)
  refine acts_ind hC hn (fun k a => ∀ M N f f', OJ na C0 N0 M N → nn - k < f' → na - a < f → ∃ M' N', f_X3_joinRows_42 f (nI q) (nI d) x (nI a) M = some M' ∧ f_X12_join_109 f' (nI q) (nI d) x (nI k) N = bd (f_X12_turned N') (fun r M => some (r, M)) ∧ OJ na C0 N0 M' N') ?_ ?_ ?_ C0 N0 100000 100000 ⟨CB_r C0, MB_r N0, hO⟩ (by omega) (by omega)
  · intro M N f f' hJ hf' hf
    obtain ⟨f, rfl⟩ : ∃ g, f = g + 1 := ⟨f - 1, by omega⟩
    obtain ⟨f', rfl⟩ : ∃ g, f' = g + 1 := ⟨f' - 1, by omega⟩
    rw [f_X3_joinRows_42, f_X12_join_109, hJ.1.1 107 (by decide) (by decide), hJ.2.1.1 102 (by decide) (by decide), h2.2.2.2.1, h2.2.1, if_pos (nI_le (Nat.le_refl _) (by omega)), if_pos (nI_le (Nat.le_refl _) (by omega))]
    exact ⟨M, N, rfl, rfl, hJ⟩
  · intro k a hk ha h3 ih M N f f' hJ hf' hf
    obtain ⟨f', rfl⟩ : ∃ g, f' = g + 1 := ⟨f' - 1, by omega⟩
    rw [f_X12_join_109, hJ.2.1.1 102 (by decide) (by decide), h2.2.1, if_neg (nI_ge hk (by omega)), ai_eq h2 (hJ.2.1.1 6 (by decide) (by decide)) (hJ.2.1.1 7 (by decide) (by decide)) hq hql hk, if_neg (by rw [← k1]; exact h3), bq_s, bF, nI_1]
    exact ih M N f f' hJ (by omega) hf
  · intro k a hk ha h3 han hao ih M N f f' hJ hf' hf
    obtain ⟨f, rfl⟩ : ∃ g, f = g + 1 := ⟨f - 1, by omega⟩
    obtain ⟨f', rfl⟩ : ∃ g, f' = g + 1 := ⟨f' - 1, by omega⟩
    rw [f_X3_joinRows_42, f_X12_join_109, hJ.1.1 107 (by decide) (by decide), hJ.2.1.1 102 (by decide) (by decide), h2.2.2.2.1, h2.2.1, if_neg (nI_ge ha (by omega)), if_neg (nI_ge hk (by omega)), ai_eq h2 (hJ.2.1.1 6 (by decide) (by decide)) (hJ.2.1.1 7 (by decide) (by decide)) hq hql hk, if_pos (by rw [← k1]; exact h3), st_eq h2 hJ.1 ha hq hk han, bq_s, bq_s, nI_1, nI_1]
    cases es : stB C0 q k with
    | false =>
      rw [bF, bF]
      exact ih M N f f' hJ (by omega) (by omega)
    | true =>
      have hst := of_decide_eq_true es
      rw [ed'] at hst
      obtain ⟨qq, o1, o2, o3, o4⟩ := hJ.2.2 a ha
      have ek : cN_ (C0.1 16 a) = k := by rw [han]; exact cN_n' (by omega)
      rw [ek] at o2 o3 o4
      have hqq : qq ≤ 16 := o4.2.1
      have hl4 : cN_ (C0.1 11 k) ≤ 4 := (hT k hk).2.2.1.2.1
      obtain ⟨i, i1, i2, i3, i4, i5⟩ := (lr_eq (M := M) (N := N) (d := d) (by omega) (by omega) hl4 o1 o2 o3 o4).1 hst.1
      unfold f_X12_rowAt
      rw [bT, bT, ra_eq (by omega) i1 (by omega) i3, i4, bq_s, bq_s, if_neg (nI_pos (by omega)), i_n1, pk_sub (by omega), i_n16, i_n7, pk_mul, nI_add, pk_mul, bq_s, ck_nI (by omega) (by omega), ck_nI (by omega) (by omega), nI_clamp (by omega), nI_clamp (by omega)]
      exact ih _ _ f f' (OJ_num h2 hJ ha hk han hao o1 o2 o3 rfl o4 (by omega) hx) (by omega) (by omega)
end
theorem sim_part : Sim_part Rel := by
  intro Mc Mm y0 ⟨ns, nn, na, nr, nk, h⟩
  have h2 := h.2.1
  have hn : nn ≤ 40 := h2.2.2.1
  obtain ⟨k1, k2, k3, k4, k5⟩ := h2.2.2.2.2.2.2.1
  unfold f_X11_part f_X12_part
  rw [kn_eq h2.1 (by omega), no_eq h2.2.1 (by omega)]
  cases e : inN y0 nn with
  | false => exact same_go h _
  | true =>
    obtain ⟨j, hj, rfl⟩ := inN_t e
    obtain ⟨b, b1, b2, b3, _⟩ := isLp_b (M := Mc) (N := Mm) (j := j) (by omega) k1
    rw [bq_s, bq_s, bT, bT, b1, b2, bq_s, bq_s]
    cases b with
    | false => exact meet_go h 3 (by decide) rfl
    | true =>
      have hql := b3 rfl
      obtain ⟨d, hd, ed⟩ : ∃ d, d < 4 ∧ Mc.1 11 j = nI d := ⟨_, (h2.2.2.2.2.2.2.2.1 j hj).2.2.1.2.2 (by rw [k1]; exact hql), (h2.2.2.2.2.2.2.2.1 j hj).2.2.1.1⟩
      obtain ⟨Mk, Mt, t1, t2, t3, t4, t5, t6, t34, t35, t7⟩ := turn_done h
      obtain ⟨g2, gO⟩ := R2_k h t3 t5
      have g21 : R2' ns nn na Mc Mt := (R2_k (Mk := Mc) h (fun _ _ _ => rfl) t5).1
      have pl := part_ls (C1 := Mc) g2 g21 (fun c a b => (t3 c a b).symm) gO hj (by rw [t5 6 (by decide) (by decide)]; exact hql) hd (by rw [t3 11 (by decide) (by decide)]; exact ed)
      unfold f_X3_partFits f_X3_partRows
      rw [bT, bT, ck40 (by omega), ck40 (by omega), nI_clamp (by omega), ← k3, ed, t2, bm_s, i_n0]
      rcases pl with ⟨M, N, u1, u2, u3, u4⟩ | ⟨N, u1, u2, u3⟩
      · obtain ⟨Mc3, Mm3, v1, v2, v3⟩ := t7 M N u4.1.1 u4.1.2 u4.2.1.1 u4.2.1.2.1 (by have := u4.2.2; rw [t3 16 (by decide) (by decide), t3 11 (by decide) (by decide)] at this; exact this)
        rw [u1, bq_s, bT, t1, bm_s, ck40 (by omega), t3 11 (by decide) (by decide), ed, u2, bm_s, v1, u3, v2]
        exact ⟨_, _, _, rfl, rfl, v3⟩
      · obtain ⟨N', w1, w2⟩ := give_rel h t5 t6 t34 t35 u3
        rw [u1, bq_s, bF, u2, w1, bm_s]
        exact same_go w2 _
theorem sim_join : Sim_join Rel := by
  intro Mc Mm y0 y1 ⟨ns, nn, na, nr, nk, h⟩
  have h2 := h.2.1
  have hn : nn ≤ 40 := h2.2.2.1
  have hna : na ≤ 12 := h2.2.2.2.2.2.1
  obtain ⟨k1, k2, k3, k4, k5⟩ := h2.2.2.2.2.2.2.1
  have hT := h2.2.2.2.2.2.2.2.1
  unfold f_X11_join f_X12_join
  rw [kn_eq h2.1 (by omega), no_eq h2.2.1 (by omega), kn_eq h2.1 (by omega), no_eq h2.2.1 (by omega)]
  cases e : inN y0 nn with
  | false => exact same_go h _
  | true =>
    obtain ⟨j, hj, rfl⟩ := inN_t e
    cases e1 : inN y1 nn with
    | false => exact same_go h _
    | true =>
      obtain ⟨j', hj', rfl⟩ := inN_t e1
      obtain ⟨b, b1, b2, b3, _⟩ := isLp_b (M := Mc) (N := Mm) (j := j) (by omega) k1
      obtain ⟨b', b1', b2', b3', _⟩ := isLp_b (M := Mc) (N := Mm) (j := j') (by omega) k1
      unfold f_X11_join_46 f_X12_join_34
      simp only [bq_s, bT, if_true]
      rw [b1, b2, b1', b2']
      cases b with
      | false => exact meet_go h 3 (by decide) rfl
      | true =>
        cases b' with
        | false => exact meet_go h 3 (by decide) rfl
        | true =>
          have hql := b3 rfl
          have hql' := b3' rfl
          simp only [bq_s, bT, if_true, ck40 (show j < 40 by omega), ck40 (show j' < 40 by omega)]
          rw [nI_clamp (show j < 2 ^ 31 by omega), nI_clamp (show j' < 2 ^ 31 by omega), ← k2, ← k3]
          have fa := fa_ls (C0 := Mc) (N0 := Mm) (M := Mc) (N := Mm) h2 (CB_r Mc) rfl rfl rfl rfl hj hql
          have fm : ∃ r, f_X12_firstActIn Mm (nI j) = some r := by
            rcases fa with ⟨a, k, _, _, _, _, _, _, x⟩ | ⟨_, x⟩
            · exact ⟨_, x⟩
            · exact ⟨_, x⟩
          by_cases qp : Mc.1 10 j = Mc.1 10 j'
          · simp only [if_pos qp]
            by_cases ql : j < j'
            · rw [if_pos (nI_lt ql (by omega))]
              rcases fa with ⟨a, k, ha, hk, han, hao, hst, x1, x2⟩ | ⟨x1, x2⟩
              · obtain ⟨d, hd, ed⟩ : ∃ d, d < 4 ∧ Mc.1 11 j = nI d := ⟨_, (hT j hj).2.2.1.2.2 (by rw [k1]; exact hql), (hT j hj).2.2.1.1⟩
                have ed2 : Mc.1 11 j' = nI d := by
                  rw [← ed, (hT j hj).2.2.1.1, (hT j' hj').2.2.1.1]
                  congr 1
                  by_cases z : Mc.1 10 j = -9
                  · rw [(hT j hj).2.2.2.1 z, (hT j' hj').2.2.2.1 (by rw [← qp]; exact z)]
                  · by_cases y : Lq (Mc.1 9) (cN_ (Mc.1 10 j))
                    · rw [(hT j hj).2.2.2.2.1 z y, (hT j' hj').2.2.2.2.1 (by rw [← qp]; exact z) (by rw [← qp]; exact y), qp]
                    · rw [(hT j hj).2.2.2.2.2.1 z y, (hT j' hj').2.2.2.2.2.1 (by rw [← qp]; exact z) (by rw [← qp]; exact y), qp]
                have hst' := of_decide_eq_true hst
                have ed' : cN_ (Mc.1 11 j) = d := by rw [ed]; exact cN_n' (by omega)
                rw [ed'] at hst'
                obtain ⟨Mk, Mt, t1, t2, t3, t4, t5, t6, t34, t35, t7⟩ := turn_done h
                obtain ⟨g2, gO⟩ := R2_k h t3 t5
                obtain ⟨qq, o1, o2, o3, o4⟩ := gO a ha
                have ek : cN_ (Mk.1 16 a) = k := by rw [t3 16 (by decide) (by decide), han]; exact cN_n' (by omega)
                rw [ek] at o2 o3 o4
                have hqq : qq ≤ 16 := o4.2.1
                have hl4 : cN_ (Mk.1 11 k) ≤ 4 := by rw [t3 11 (by decide) (by decide)]; exact (hT k hk).2.2.1.2.1
                obtain ⟨i, i1, i2, i3, i4, i5⟩ := (lr_eq (M := Mk) (N := Mt) (d := d) (by omega) (by omega) hl4 o1 o2 o3 o4).1 (by rw [t3 11 (by decide) (by decide)]; exact hst'.1)
                have e0 : Mk.1 28 ((a * 16 + (i - 1)) * 7) = Mt.1 31 (7 * (16 * k + (i - 1))) := o3 (i - 1) (by omega) 0 (by omega)
                obtain ⟨M, N, u1, u2, u3⟩ := join_ls g2 gO hj' (by rw [t5 6 (by decide) (by decide)]; exact hql') hd (by rw [t3 11 (by decide) (by decide)]; exact ed2) (x := Mt.1 31 (7 * (16 * k + (i - 1)))) (o4.2.2.2.2.2.1 (i - 1) (by omega) 0 (by omega))
                obtain ⟨Mc3, Mm3, v1, v2, v3⟩ := t7 M N u3.1.1 u3.1.2 u3.2.1.1 u3.2.1.2.1 (by have := u3.2.2; rw [t3 16 (by decide) (by decide), t3 11 (by decide) (by decide)] at this; exact this)
                unfold f_X3_joinRows f_X12_rowAt
                rw [x1, x2]
                simp only [bq_s, if_true]
                rw [if_pos (nI_pos' (by omega)), if_neg (show ¬ nI j' ≤ nI j from nI_ge ql (by omega)), if_neg (nN9 (by omega)), t1, t2, bm_s, bm_s, ck40 (by omega), nI_clamp (by omega), t3 11 (by decide) (by decide), ed2, ed, ra_eq (by omega) i1 (by omega) i3, i4]
                simp only [bq_s]
                rw [if_pos (nI_pos' (by omega)), i_n1, pk_sub (by omega), i_n16, i_n7, pk_mul, nI_add, pk_mul, ck_nI (by omega) (by omega), ck_nI (by omega) (by omega), nI_clamp (by omega), nI_clamp (by omega), e0, i_n0, u1, u2, bm_s, v1, v2]
                exact ⟨_, _, _, rfl, rfl, v3⟩
              · rw [x1, x2]
                simp only [bq_s]
                rw [if_neg (show ¬ nI j' ≤ nI j from nI_ge ql (by omega))]
                exact same_go h _
            · obtain ⟨r, hr⟩ := fm
              rw [hr, bq_s, if_neg (nI_nlt (by omega) (by omega)), if_pos (nI_le (by omega) (by omega))]
              exact same_go h _
          · obtain ⟨r, hr⟩ := fm
            rw [hr, bq_s]
            simp only [if_neg qp]
            exact same_go h _
