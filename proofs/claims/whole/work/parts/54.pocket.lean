/-! the pure half: pockets -/
theorem R4_put {nn j : Nat} {st it by_ m14 m15 m16 m17 st' it' by' m14' m15' m16' m17' : Nat → Int32} (h : R4 nn st it by_ m14 m15 m16 m17) (hj : j < nn) (he : st' = m14') (hst : ∀ k, k ≠ j → st' k = st k)
    (hit : ∀ k, k ≠ j → it' k = it k ∧ m15' k = m15 k ∧ m16' k = m16 k) (hfit : ∀ i, vp_nar .byte (by' i) = by' i) (hby : ∀ k, k ≠ j → ∀ i, i < 12 → by' (k * 12 + i) = by_ (k * 12 + i) ∧ m17' (12 * k + i) = m17 (12 * k + i))
    (hnew : st' j = 0 ∨ (st' j = 1 ∧ it' j = m15' j ∧ ∃ i, i < nn ∧ it' j = nI i) ∨ (st' j = 2 ∧ it' j = m16' j ∧ ∃ L, L ≤ 12 ∧ it' j = nI L ∧ ∀ i, i < L → by' (j * 12 + i) = m17' (12 * j + i))) : R4 nn st' it' by' m14' m15' m16' m17' := by
  obtain ⟨a1, a2, a3, a4⟩ := h
  refine ⟨he, fun k hk => ?_, hfit, fun k hk => ?_⟩
  · rw [hst k (by omega)]; exact a2 k hk
  · by_cases q : k = j
    · subst q; exact hnew
    · obtain ⟨b1, b2, b3⟩ := hit k q
      rw [hst k q, b1, b2, b3]
      rcases a4 k hk with c1 | c1 | ⟨c1, c2, L, c3, c4, c5⟩
      · exact .inl c1
      · exact .inr (.inl c1)
      · refine .inr (.inr ⟨c1, c2, L, c3, c4, fun i hi => ?_⟩)
        obtain ⟨d1, d2⟩ := hby k q i (by omega)
        rw [d1, d2]; exact c5 i hi
theorem ck40 {α : Type} {j : Nat} {k : Option α} (h : j < 40) : ck (nI j) 40 k = k := ck_nI h (by decide)
theorem note_loop {j : Nat} (hj : j < 40) (L : Int32) : ∀ (m i fuel : Nat) (M : Mem), i + m = 12 → m < fuel → f_X12_note_42 fuel (nI j) L (nI i) M = some (L, fI M 17 (12 * j + i) (12 * j + 12) (vp_nar .byte 0)) := by
  intro m
  induction m with
  | zero =>
    intro i fuel M hi hf
    obtain ⟨f, rfl⟩ : ∃ f, fuel = f + 1 := ⟨fuel - 1, by omega⟩
    have e : i = 12 := by omega
    subst e
    rw [f_X12_note_42, if_pos (by decide), fI_nil]
  | succ m ih =>
    intro i fuel M hi hf
    obtain ⟨f, rfl⟩ : ∃ f, fuel = f + 1 := ⟨fuel - 1, by omega⟩
    rw [f_X12_note_42, i_n12, if_neg (nI_ge (by omega) (by omega)), pk_mul, nI_add, ck_nI (by omega) (by omega), nI_clamp (by omega), nI_1, ih (i + 1) f _ (by omega) (by omega), ← Nat.add_assoc, fI_step (by omega)]
theorem nar0 : vp_nar .byte 0 = 0 := by decide
theorem fitN (x : Int32) : fits .byte (.int (vp_nar .byte x)) = true := pk_fb x
theorem narV (x : Int32) : vp_nar .byte (vp_nar .byte x) = vp_nar .byte x := pk_vb x
theorem fitV {x : Int32} (h : vp_nar .byte x = x) : fits .byte (.int x) = true := by rw [← h]; exact fitN x
section
variable {ns nn na nr nk : Nat} {Mc Mm : Mem}
theorem isEm_eq {M : Mem} {j : Nat} (hj : j < 40) : f_X4_isEmpty M (nI j) = some (decide (M.1 22 j = 0)) := by
  unfold f_X4_isEmpty
  rw [ck_nI hj (by decide), nI_clamp (by omega)]
  by_cases h : M.1 22 j = 0
  · rw [if_pos h, decide_eq_true h]
  · rw [if_neg h, decide_eq_false h]
theorem isNd_eq {M : Mem} {j : Nat} (hj : j < 40) : f_X4_isNode M (nI j) = some (decide (M.1 22 j = 1)) := by
  unfold f_X4_isNode
  rw [ck_nI hj (by decide), nI_clamp (by omega)]
  by_cases h : M.1 22 j = 1
  · rw [if_pos h, decide_eq_true h]
  · rw [if_neg h, decide_eq_false h]
theorem isNt_eq {M : Mem} {j : Nat} (hj : j < 40) : f_X4_isNote M (nI j) = some (decide (M.1 22 j = 2)) := by
  unfold f_X4_isNote
  rw [ck_nI hj (by decide), nI_clamp (by omega)]
  by_cases h : M.1 22 j = 2
  · rw [if_pos h, decide_eq_true h]
  · rw [if_neg h, decide_eq_false h]
end
theorem sim_hold : Sim_hold Rel := by
  intro Mc Mm y0 y1 ⟨ns, nn, na, nr, nk, h⟩
  have h2 := h.2.1
  have hn : nn ≤ 40 := h2.2.2.1
  have h4 := h.2.2.2.1
  unfold f_X11_hold f_X12_hold
  rw [kn_eq h2.1 (by omega), no_eq h2.2.1 (by omega)]
  cases e : inN y0 nn with
  | false => exact same_go h _
  | true =>
    obtain ⟨j, hj, rfl⟩ := inN_t e
    rw [bq_s, bq_s, bT, bT, kn_eq h2.1 (by omega), no_eq h2.2.1 (by omega)]
    have p9 : ¬ nI j = -9 := nN9 (by omega)
    by_cases q : y1 = -9
    · subst q
      rw [if_neg p9, if_pos rfl, if_pos rfl]
      unfold f_X12_hold_22 f_X12_hold_45 f_X4_empty
      rw [if_neg p9, if_pos rfl, ck_nI (by omega) (by omega), ck_nI (by omega) (by omega), ck_nI (by omega) (by omega), nI_clamp (by omega), bm_s]
      obtain ⟨h1, h2, h3, h4, h5, h6, h7, h8⟩ := h
      refine ⟨_, _, _, rfl, rfl, ns, nn, na, nr, nk, h1, h2, h3, ?_, h5, h6, h7, h8⟩
      refine R4_put h4 hj ?_ (fun k hk => pk_un hk) (fun k hk => ⟨rfl, pk_un hk, rfl⟩) h4.2.2.1 (fun k hk i hi => ⟨rfl, rfl⟩) (.inl pk_us)
      show upd (Mc.1 22) j 0 = upd (Mm.1 14) j 0
      rw [h4.1]
    · rw [if_neg q, if_neg q]
      cases g : inN y1 nn with
      | false =>
        by_cases q2 : nI j = y1
        · rw [if_pos q2]; exact same_go h _
        · rw [if_neg q2]; exact same_go h _
      | true =>
        obtain ⟨i, hi, rfl⟩ := inN_t g
        unfold f_X12_hold_22
        rw [bq_s, bT, bq_s, bT]
        by_cases q2 : nI j = nI i
        · rw [if_pos q2, if_pos q2]; exact same_go h _
        · rw [if_neg q2, if_neg q2, if_neg q]
          unfold f_X12_hold_45 f_X4_putNode
          rw [ck_nI (by omega) (by omega), ck_nI (by omega) (by omega), ck_nI (by omega) (by omega), ck_nI (by omega) (by omega), nI_clamp (by omega), bm_s]
          obtain ⟨h1, h2, h3, h4, h5, h6, h7, h8⟩ := h
          refine ⟨_, _, _, rfl, rfl, ns, nn, na, nr, nk, h1, h2, h3, ?_, h5, h6, h7, h8⟩
          refine R4_put h4 hj ?_ (fun k hk => pk_un hk) (fun k hk => ⟨pk_un hk, pk_un hk, rfl⟩) h4.2.2.1 (fun k hk i hi => ⟨rfl, rfl⟩) (.inr (.inl ⟨pk_us, ?_, i, hi, pk_us⟩))
          · show upd (Mc.1 22) j 1 = upd (Mm.1 14) j 1
            rw [h4.1]
          · show upd (Mc.1 23) j (nI i) j = upd (Mm.1 15) j (nI i) j
            rw [pk_us, pk_us]
theorem sim_note : Sim_note Rel := by
  intro Mc Mm y0 y1 ⟨ns, nn, na, nr, nk, h⟩
  have h2 := h.2.1
  have hn : nn ≤ 40 := h2.2.2.1
  unfold f_X11_note f_X12_note
  rw [kn_eq h2.1 (by omega), no_eq h2.2.1 (by omega)]
  cases e : inN y0 nn with
  | false => exact same_go h _
  | true =>
    obtain ⟨j, hj, rfl⟩ := inN_t e
    rw [bq_s, bq_s, bT, bT]
    by_cases q : y1 ≤ 12
    · rw [if_pos q, if_pos q]
      by_cases q0 : 0 ≤ y1
      · rw [if_pos q0, if_pos q0]
        obtain ⟨L, hL, rfl⟩ := nI_of2 (x := y1) (M := 12) (n := 12) (by decide) (Int32.not_lt.mpr q0) q
        unfold f_X4_putNote
        rw [i_n12, pk_mul, nI_add, ck_nI (by omega) (by omega), ck_nI (by omega) (by omega), ck_nI (by omega) (by omega), ck_nI (by omega) (by omega), cf_nI (by omega) (by omega) (by omega), nI_clamp (by omega), nI_clamp (by omega), nI_clamp (by omega), bm_s, i_n0, note_loop (by omega) (nI L) 12 0 100000 _ rfl (by omega)]
        obtain ⟨h1, h2, h3, h4, h5, h6, h7, h8⟩ := h
        refine ⟨_, _, _, rfl, rfl, ns, nn, na, nr, nk, h1, h2, h3, ?_, h5, h6, h7, h8⟩
        refine R4_put h4 hj ?_ (fun k hk => pk_un hk) (fun k hk => ⟨pk_un hk, rfl, pk_un hk⟩) (fun i => ?_) (fun k hk i hi => ⟨fl_out (by omega), fl_out (by omega)⟩) (.inr (.inr ⟨pk_us, ?_, L, hL, pk_us, fun i hi => ?_⟩))
        · show upd (Mc.1 22) j 2 = upd (Mm.1 14) j 2
          rw [h4.1]
        · show vp_nar .byte (fl_ (Mc.1 24) (j * 12) (j * 12 + L) (vp_nar .byte (nI 0)) i) = fl_ (Mc.1 24) (j * 12) (j * 12 + L) (vp_nar .byte (nI 0)) i
          by_cases z : j * 12 ≤ i ∧ i < j * 12 + L
          · rw [fl_in z]; exact narV _
          · rw [fl_out z]; exact h4.2.2.1 i
        · show upd (Mc.1 23) j (nI L) j = upd (Mm.1 16) j (nI L) j
          rw [pk_us, pk_us]
        · show fl_ (Mc.1 24) (j * 12) (j * 12 + L) (vp_nar .byte (nI 0)) (j * 12 + i) = fl_ (Mm.1 17) (12 * j + 0) (12 * j + 12) (vp_nar .byte (nI 0)) (12 * j + i)
          rw [fl_in ⟨by omega, by omega⟩, fl_in ⟨by omega, by omega⟩]
      · rw [if_neg q0, if_neg q0]
        exact meet_go h 5 (by decide) rfl
    · rw [if_neg q, if_neg q]; exact same_go h _
theorem sim_held : Sim_held Rel := by
  intro Mc Mm y0 y1 ⟨ns, nn, na, nr, nk, h⟩
  have h2 := h.2.1
  have hn : nn ≤ 40 := h2.2.2.1
  have h4 := h.2.2.2.1
  unfold f_X11_held f_X12_held
  rw [kn_eq h2.1 (by omega), no_eq h2.2.1 (by omega), in_w 0 3, wi_n y1 (b := 3) (m := 3) (n := 4) rfl rfl (by decide)]
  cases e : inN y0 nn with
  | false => exact same_go h _
  | true =>
    obtain ⟨j, hj, rfl⟩ := inN_t e
    cases g : inN y1 4 with
    | false => exact same_go h _
    | true =>
      rw [bq_s, bq_s, bT, bT, bq_s, bq_s, bT, bT, isNt_eq (by omega), isEm_eq (by omega)]
      simp only [ck40 (show j < 40 by omega)]
      rw [nI_clamp (by omega), ← h4.1]
      unfold f_X12_held_88
      rcases h4.2.2.2 j hj with a | ⟨a, b, i, hi, c⟩ | ⟨a, _⟩
      · rw [a]
        exact meet_go h 1 (by decide) rfl
      · rw [a, ← b, c]
        unfold f_X2_isOfKind f_X2_isLoop
        rw [ck_nI (by omega) (by omega), ck_nI (by omega) (by omega), ck_nI (by omega) (by omega), ck_nI (by omega) (by omega), nI_clamp (by omega), h2.2.2.2.2.2.2.1.1]
        have d1 : decide ((1 : Int32) = 2) = false := by decide
        have d2 : decide ((1 : Int32) = 0) = false := by decide
        rw [d1, d2, bq_s, bF, bq_s, bF, if_neg (show ¬ (1 : Int32) = 0 by decide), if_neg (show ¬ (1 : Int32) = 2 by decide)]
        by_cases p0 : y1 = 0
        · subst p0
          simp only [if_true]
          by_cases p1 : Mm.1 6 i = 0
          · simp only [if_pos p1]; exact same_go h _
          · simp only [if_neg p1]
            by_cases p2 : Mm.1 6 i = 1
            · simp only [if_pos p2]; exact same_go h _
            · simp only [if_neg p2]; exact meet_go h 3 (by decide) rfl
        · simp only [if_neg p0]
          by_cases p1 : Mm.1 6 i = y1
          · simp only [if_pos p1]; exact same_go h _
          · simp only [if_neg p1]; exact meet_go h 3 (by decide) rfl
      · rw [a]
        exact meet_go h 3 (by decide) rfl
theorem sim_noted : Sim_noted Rel := by
  intro Mc Mm y0 y1 y2 ⟨ns, nn, na, nr, nk, h⟩
  have h2 := h.2.1
  have hn : nn ≤ 40 := h2.2.2.1
  have h4 := h.2.2.2.1
  unfold f_X11_noted f_X12_noted
  rw [kn_eq h2.1 (by omega), no_eq h2.2.1 (by omega)]
  cases e : inN y0 nn with
  | false => exact same_go h _
  | true =>
    obtain ⟨j, hj, rfl⟩ := inN_t e
    rw [bq_s, bq_s, bT, bT, isNt_eq (by omega), isEm_eq (by omega), ck_nI (by omega) (by omega), ck_nI (by omega) (by omega), ck_nI (by omega) (by omega), ck_nI (by omega) (by omega), nI_clamp (by omega), ← h4.1]
    unfold f_X12_noted_35
    rcases h4.2.2.2 j hj with a | ⟨a, b, i, hi, c⟩ | ⟨a, b, L, hL, c, d⟩
    · rw [a]
      exact meet_go h 1 (by decide) rfl
    · rw [a]
      exact meet_go h 3 (by decide) rfl
    · have d1 : decide ((2 : Int32) = 2) = true := by decide
      have d2 : decide ((2 : Int32) = 0) = false := by decide
      rw [a, ← b, c, d1, d2, bq_s, bF, bq_s, bT, if_pos rfl, wi_p y1 (by omega), in_p y1 (by omega)]
      cases g : inN y1 L with
      | false => exact meet_go h 2 (by decide) rfl
      | true =>
        obtain ⟨i, hi, rfl⟩ := inN_t g
        unfold f_X4_change
        rw [bq_s, bq_s, bT, bT, i_n12, pk_mul, pk_mul, nI_add, nI_add, ck_nI (by omega) (by omega), ck_nI (by omega) (by omega), ck_nI (by omega) (by omega), ck_nI (by omega) (by omega), nI_clamp (by omega), nI_clamp (by omega), bd_s, d i hi, Int32.add_comm]
        obtain ⟨h1, h2, h3, h4, h5, h6, h7, h8⟩ := h
        refine ⟨_, _, _, rfl, rfl, ns, nn, na, nr, nk, h1, h2, h3, ?_, h5, h6, h7, h8⟩
        · refine R4_put h4 hj h4.1 (fun k hk => rfl) (fun k hk => ⟨rfl, rfl, rfl⟩) (fun q => ?_) (fun k hk q hq => ⟨pk_un (by omega), pk_un (by omega)⟩) (.inr (.inr ⟨a, b, L, hL, c, fun q hq => ?_⟩))
          · show vp_nar .byte (upd (Mc.1 24) (j * 12 + i) (vp_nar .byte y2.toInt8.toInt32) q) = upd (Mc.1 24) (j * 12 + i) (vp_nar .byte y2.toInt8.toInt32) q
            by_cases z : q = j * 12 + i
            · rw [z, pk_us]; exact narV _
            · rw [pk_un z]; exact h4.2.2.1 q
          · show upd (Mc.1 24) (j * 12 + i) (vp_nar .byte y2.toInt8.toInt32) (j * 12 + q) = upd (Mm.1 17) (12 * j + i) (vp_nar .byte y2.toInt8.toInt32) (12 * j + q)
            by_cases z : q = i
            · rw [z, pk_us, pk_us]
            · rw [pk_un (by omega), pk_un (by omega)]; exact d q hq
theorem cp2 {b j n : Nat} (hb : b < 40) (hj : j + n ≤ 12) : ∀ (m k fuel : Nat) (M : Mem), k + m = n → m < fuel → (∀ q, q < n → vp_nar .byte (M.1 18 q) = M.1 18 q) → f_X12_copy_163 fuel (nI b) (nI j) (nI n) (nI k) M = some (1, yI M 18 k 17 (12 * b + j + k) m) := by
  intro m
  induction m with
  | zero =>
    intro k fuel M hk hf hv
    obtain ⟨f, rfl⟩ : ∃ f, fuel = f + 1 := ⟨fuel - 1, by omega⟩
    rw [f_X12_copy_163, if_pos (nI_le (by omega) (by omega)), yI_nil]
  | succ m ih =>
    intro k fuel M hk hf hv
    obtain ⟨f, rfl⟩ : ∃ f, fuel = f + 1 := ⟨fuel - 1, by omega⟩
    rw [f_X12_copy_163, if_neg (nI_ge (by omega) (by omega)), i_n12, pk_mul, nI_add, nI_add, ck_nI (by omega) (by omega), ck_nI (by omega) (by omega), nI_clamp (by omega), nI_clamp (by omega), nI_1, hv k (by omega), ih (k + 1) f _ (by omega) (by omega) (fun q hq => by rw [sI_n (by decide)]; exact hv q hq), ← Nat.add_assoc, yI_step (by decide)]
theorem cp1 {a i n : Nat} (x3 x4 : Int32) (ha : a < 40) (hi : i + n ≤ 12) : ∀ (m k fuel : Nat) (M : Mem), k + m = n → m < fuel → (∀ q, q < n → vp_nar .byte (M.1 17 (12 * a + i + q)) = M.1 17 (12 * a + i + q)) → f_X12_copy_126 fuel (nI a) (nI i) x3 x4 (nI n) (nI k) M = f_X12_copy_163 100000 x3 x4 (nI n) 0 (yI M 17 (12 * a + i + k) 18 k m) := by
  intro m
  induction m with
  | zero =>
    intro k fuel M hk hf hv
    obtain ⟨f, rfl⟩ : ∃ f, fuel = f + 1 := ⟨fuel - 1, by omega⟩
    rw [f_X12_copy_126, if_pos (nI_le (by omega) (by omega)), yI_nil]
  | succ m ih =>
    intro k fuel M hk hf hv
    obtain ⟨f, rfl⟩ : ∃ f, fuel = f + 1 := ⟨fuel - 1, by omega⟩
    rw [f_X12_copy_126, if_neg (nI_ge (by omega) (by omega)), i_n12, pk_mul, nI_add, nI_add, ck_nI (by omega) (by omega), ck_nI (by omega) (by omega), nI_clamp (by omega), nI_clamp (by omega), nI_1, hv k (by omega), ih (k + 1) f _ (by omega) (by omega) (fun q hq => by rw [sI_n (by decide)]; exact hv q hq), ← Nat.add_assoc, yI_step (by decide)]
theorem sp_eq {M : Mem} {j L : Nat} (hj : j < 40) (hL : L ≤ 12) (hM : M.1 23 j = nI L) (x n : Int32) : f_X4_spans M (nI j) x n = some (decide (¬ x < 0 ∧ ¬ n < 0 ∧ ¬ (nI L).toInt64 < x.toInt64 + n.toInt64)) := by
  unfold f_X4_spans
  rw [ck_nI (by omega) (by omega), nI_clamp (by omega), hM]
  by_cases a : x < 0
  · rw [if_pos a, decide_eq_false (fun z => z.1 a)]
  · rw [if_neg a]
    by_cases b : n < 0
    · rw [if_pos b, decide_eq_false (fun z => z.2.1 b)]
    · rw [if_neg b]
      by_cases c : (nI L).toInt64 < x.toInt64 + n.toInt64
      · rw [if_pos c, decide_eq_false (fun z => z.2.2 c)]
      · rw [if_neg c, decide_eq_true ⟨a, b, c⟩]
theorem sp_of {x n : Int32} {L : Nat} (hL : L ≤ 12) (h : ¬ x < 0 ∧ ¬ n < 0 ∧ ¬ (nI L).toInt64 < x.toInt64 + n.toInt64) : ∃ i m : Nat, x = nI i ∧ n = nI m ∧ i + m ≤ L := by
  obtain ⟨i, hi, rfl⟩ := nI_of h.1
  obtain ⟨m, hm, rfl⟩ := nI_of h.2.1
  refine ⟨i, m, rfl, rfl, ?_⟩
  have q := h.2.2
  rw [nI_l hi, nI_l hm, nI_l (by omega), lN_add, pk_lLT (by omega) (by omega)] at q
  omega
theorem sim_copy : Sim_copy Rel := by
  intro Mc Mm y0 y1 y2 y3 y4 ⟨ns, nn, na, nr, nk, h⟩
  have h2 := h.2.1
  have hn : nn ≤ 40 := h2.2.2.1
  have h4 := h.2.2.2.1
  unfold f_X11_copy f_X12_copy
  rw [kn_eq h2.1 (by omega), no_eq h2.2.1 (by omega), kn_eq h2.1 (by omega), no_eq h2.2.1 (by omega)]
  cases e : inN y0 nn with
  | false => exact same_go h _
  | true =>
    obtain ⟨a, ha, rfl⟩ := inN_t e
    cases g : inN y2 nn with
    | false => exact same_go h _
    | true =>
      obtain ⟨b, hb, rfl⟩ := inN_t g
      rw [bq_s, bq_s, bT, bT, bq_s, bq_s, bT, bT, isNd_eq (by omega), isNd_eq (by omega), isEm_eq (by omega), isEm_eq (by omega)]
      simp only [ck40 (show a < 40 by omega), ck40 (show b < 40 by omega), nI_clamp (show a < 2 ^ 31 by omega), nI_clamp (show b < 2 ^ 31 by omega)]
      rw [← h4.1]
      unfold f_X11_copy_46 f_X12_copy_38 f_X11_copy_74 f_X12_copy_62 f_X11_copy_109 f_X12_copy_117
      have d1 : decide ((2 : Int32) = 1) = false := by decide
      have d2 : decide ((2 : Int32) = 0) = false := by decide
      have d3 : decide ((0 : Int32) = 1) = false := by decide
      have d4 : decide ((0 : Int32) = 0) = true := by decide
      have d5 : decide ((1 : Int32) = 1) = true := by decide
      rcases h4.2.2.2 a ha with p | ⟨p, _⟩ | ⟨p, p1, L, p2, p3, p4⟩
      · rw [p, d3, bq_s, bF, if_neg (by decide)]
        rcases h4.2.2.2 b hb with r | ⟨r, _⟩ | ⟨r, _⟩
        · rw [r, d3, bq_s, bF, if_neg (by decide), d4, if_pos rfl]; exact meet_go h 1 (by decide) rfl
        · rw [r, d5, if_pos rfl]; exact meet_go h 3 (by decide) rfl
        · rw [r, d1, bq_s, bF, if_neg (by decide), d4, if_pos rfl]; exact meet_go h 1 (by decide) rfl
      · rw [p, d5, if_pos rfl]; exact meet_go h 3 (by decide) rfl
      · rw [p, d1, bq_s, bF, if_neg (by decide), d2]
        rcases h4.2.2.2 b hb with r | ⟨r, _⟩ | ⟨r, r1, L', r2, r3, r4⟩
        · rw [r, d3, bq_s, bF, if_neg (by decide), bq_s, bF, if_neg (by decide), d4, if_pos rfl]; exact meet_go h 1 (by decide) rfl
        · rw [r, d5, if_pos rfl]; exact meet_go h 3 (by decide) rfl
        · rw [r, d1, bq_s, bF, if_neg (by decide), bq_s, bF, if_neg (by decide), d2, bq_s, bF, if_neg (by decide), sp_eq (by omega) p2 p3, sp_eq (by omega) r2 r3, ← p1, ← r1, p3, r3]
          by_cases u : ¬ y1 < 0 ∧ ¬ y4 < 0 ∧ ¬ (nI L).toInt64 < y1.toInt64 + y4.toInt64
          · rw [decide_eq_true u, bq_s, bT, if_neg u.1]
            by_cases w : ¬ y3 < 0 ∧ ¬ y4 < 0 ∧ ¬ (nI L').toInt64 < y3.toInt64 + y4.toInt64
            · rw [decide_eq_true w, bq_s, bT, if_neg w.1, if_neg u.2.1, if_neg u.2.2, if_pos (Int64.not_lt.mp w.2.2)]
              obtain ⟨i, m, rfl, rfl, him⟩ := sp_of p2 u
              obtain ⟨j, m', rfl, hmm, hjm⟩ := sp_of r2 w
              have em : m = m' := nI_inj (by omega) (by omega) hmm
              subst em
              have hv : ∀ q, q < m → vp_nar .byte (Mm.1 17 (12 * a + i + q)) = Mm.1 17 (12 * a + i + q) := fun q hq => by
                rw [Nat.add_assoc, ← p4 (i + q) (by omega)]; exact h4.2.2.1 _
              rw [i_n0, cp1 _ _ (by omega) (by omega) m 0 100000 Mm (by omega) (by omega) hv, i_n0, cp2 (by omega) (by omega) m 0 100000 _ (by omega) (by omega) (fun q hq => by rw [yI_e, pk_cpy_in (by omega) (by omega)]; have := hv q hq; simpa using this)]
              unfold f_X4_move
              rw [i_n12, pk_mul, nI_add, pk_mul, nI_add, ca_nI (by omega) (by omega) (by omega) (by omega), cB_ok (fun q hq => fitV (h4.2.2.1 _)), bm_s, nI_clamp (by omega), nI_clamp (by omega), nI_clamp (by omega)]
              obtain ⟨h1, h2, h3, h4, h5, h6, h7, h8⟩ := h
              refine ⟨_, _, _, rfl, rfl, ns, nn, na, nr, nk, h1, h2, h3, ?_, h5, h6, h7, h8⟩
              refine R4_put h4 hb h4.1 (fun k hk => rfl) (fun k hk => ⟨rfl, rfl, rfl⟩) (fun q => ?_) (fun k hk q hq => ⟨pk_cpy_out (by omega), pk_cpy_out (by omega)⟩) (.inr (.inr ⟨r, r1, L', r2, r3, fun q hq => ?_⟩))
              · show vp_nar .byte (va_cpy (Mc.1 24) (Mc.1 24) (a * 12 + i) (b * 12 + j) m q) = va_cpy (Mc.1 24) (Mc.1 24) (a * 12 + i) (b * 12 + j) m q
                by_cases z : b * 12 + j ≤ q ∧ q < b * 12 + j + m
                · rw [pk_cpy_in z.1 z.2]; exact h4.2.2.1 _
                · rw [pk_cpy_out (by omega)]; exact h4.2.2.1 _
              · show va_cpy (Mc.1 24) (Mc.1 24) (a * 12 + i) (b * 12 + j) m (b * 12 + q) = va_cpy (va_cpy (Mm.1 17) (Mm.1 18) (12 * a + i + 0) 0 m) (Mm.1 17) 0 (12 * b + j + 0) m (12 * b + q)
                by_cases z : j ≤ q ∧ q < j + m
                · rw [pk_cpy_in (by omega) (by omega), pk_cpy_in (by omega) (by omega), pk_cpy_in (by omega) (by omega)]
                  have := p4 (i + (q - j)) (by omega)
                  have e1 : a * 12 + i + (b * 12 + q - (b * 12 + j)) = a * 12 + (i + (q - j)) := by omega
                  have e2 : 12 * a + i + 0 + (0 + (12 * b + q - (12 * b + j + 0)) - 0) = 12 * a + (i + (q - j)) := by omega
                  rw [e1, e2]; exact this
                · rw [pk_cpy_out (by omega), pk_cpy_out (by omega)]; exact r4 q hq
            · rw [decide_eq_false w, bq_s, bF]
              by_cases w1 : y3 < 0
              · rw [if_pos w1]; exact meet_go h 2 (by decide) rfl
              · rw [if_neg w1, if_neg u.2.1, if_neg u.2.2, if_neg (fun z => w ⟨w1, u.2.1, Int64.not_lt.mpr z⟩)]; exact meet_go h 2 (by decide) rfl
          · rw [decide_eq_false u, bq_s, bF]
            by_cases w0 : y1 < 0
            · rw [if_pos w0]; exact meet_go h 2 (by decide) rfl
            · rw [if_neg w0]
              by_cases w1 : y3 < 0
              · rw [if_pos w1]; exact meet_go h 2 (by decide) rfl
              · rw [if_neg w1]
                by_cases w2 : y4 < 0
                · rw [if_pos w2]; exact meet_go h 2 (by decide) rfl
                · rw [if_neg w2]
                  by_cases w3 : (nI L).toInt64 < y1.toInt64 + y4.toInt64
                  · rw [if_pos w3]; exact meet_go h 2 (by decide) rfl
                  · exact absurd ⟨w0, w2, w3⟩ u
