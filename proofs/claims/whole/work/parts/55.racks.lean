/-! the pure half: arrays -/
def inL (x : Int64) (n : Nat) : Bool := decide (¬ x < 0 ∧ x < lN n)
theorem inL_t {x : Int64} {n : Nat} (h : inL x n = true) (hn : n < 2 ^ 31) : ∃ i, i < n ∧ x = lN i := by
  have h := of_decide_eq_true h
  obtain ⟨i, hi, rfl⟩ := pk_lOf h.1
  have q := h.2
  rw [pk_lLT hi (by omega)] at q
  exact ⟨i, q, rfl⟩
theorem t64_32 (x : Int32) : x.toInt64.toInt32 = x := by simp
theorem inL_32 {x : Int32} {n : Nat} (h : inL x.toInt64 n = true) (hn : n < 2 ^ 31) : ∃ i, i < n ∧ x = nI i := by
  obtain ⟨i, hi, e⟩ := inL_t h hn
  refine ⟨i, hi, ?_⟩
  rw [← t64_32 x, e, lN_i]
theorem in_pL (x : Int64) {n : Nat} (hn : n < 2 ^ 31) : f_X12_in x 0 (nI n - 1).toInt64 = some (inL x n) := by
  unfold f_X12_in inL
  by_cases h : x < 0
  · rw [if_pos h, decide_eq_false (fun q => q.1 h)]
  · rw [if_neg h]
    obtain ⟨i, hi, rfl⟩ := pk_lOf h
    cases n with
    | zero =>
      have e : (nI 0 - 1 : Int32).toInt64 < lN i := by
        rw [Int64.lt_iff_toInt_lt, pk_lT hi]
        have : (nI 0 - 1 : Int32).toInt64.toInt = -1 := by decide
        omega
      rw [if_pos e, decide_eq_false]
      intro q
      have q := q.2
      rw [pk_lLT hi (by omega)] at q
      omega
    | succ m =>
      rw [nI_pred, nI_l (by omega)]
      by_cases g : m < i
      · rw [if_pos ((pk_lLT (by omega) hi).mpr g), decide_eq_false]
        intro q
        have q := q.2
        rw [pk_lLT hi (by omega)] at q
        omega
      · rw [if_neg (fun q => g ((pk_lLT (by omega) hi).mp q)), decide_eq_true ⟨h, (pk_lLT hi (by omega)).mpr (by omega)⟩]
theorem hr_eq {M : Mem} {r N : Nat} (hN : M.2.2.2.2.2 (r + 2) = N) (hn : N < 2 ^ 31) (x : Int64) : f_X5_hasRow M r x = some (inL x N) := by
  unfold f_X5_hasRow inL
  rw [hN, nI_l hn]
  by_cases h : x < 0
  · rw [if_pos h, decide_eq_false (fun q => q.1 h)]
  · rw [if_neg h]
    by_cases g : lN N ≤ x
    · rw [if_pos g, decide_eq_false (fun q => absurd q.2 (Int64.not_lt.mpr g))]
    · rw [if_neg g, decide_eq_true ⟨h, Int64.not_le.mp g⟩]
theorem R5_put {nr r i : Nat} {c100 m104 : Int32} {c25 : Nat → Option Nat} {dI dI' : Nat → Nat → Int32} {dL dL' : Nat → Nat → Int64} {dN : Nat → Nat} {m19 m20 m21 m21' : Nat → Int32} {m22 m22' : Nat → Int64}
    (h : R5 nr c100 m104 c25 dI dL dN m19 m20 m21 m22) (hr : r < nr) (hi : i < dN (r + 2)) (hd : ∀ q, dI' (4 * q) = dI (4 * q))
    (hlen : ∀ r' i', i' < 20 → ¬ (r' = r ∧ i' = i) → dI' (4 * r' + 1) i' = dI (4 * r' + 1) i' ∧ m21' (20 * r' + i') = m21 (20 * r' + i') ∧ ∀ j, j < 20 → dL' r' (i' * 20 + j) = dL r' (i' * 20 + j) ∧ m22' (400 * r' + 20 * i' + j) = m22 (400 * r' + 20 * i' + j))
    (hnew : (dI' (4 * r + 1) i = -1 ∧ m21' (20 * r + i) = -9) ∨ (∃ L, L ≤ 20 ∧ dI' (4 * r + 1) i = nI L ∧ m21' (20 * r + i) = nI L ∧ ∀ j, j < L → dL' r (i * 20 + j) = m22' (400 * r + 20 * i + j))) :
    R5 nr c100 m104 c25 dI' dL' dN m19 m20 m21' m22' := by
  obtain ⟨a1, a2, a3, a4, a5, a6, a7⟩ := h
  refine ⟨a1, a2, a3, a4, a5, a6, fun r' hr' => ?_⟩
  obtain ⟨b1, b2, b3, b4⟩ := a7 r' hr'
  refine ⟨b1, b2, by rw [hd]; exact b3, fun i' hi' => ?_⟩
  by_cases q : r' = r ∧ i' = i
  · rw [q.1, q.2]; exact hnew
  · obtain ⟨c1, c2, c3⟩ := hlen r' i' (by omega) q
    rw [c1, c2]
    rcases b4 i' hi' with d | ⟨L, d1, d2, d3, d4⟩
    · exact .inl d
    · refine .inr ⟨L, d1, d2, d3, fun j hj => ?_⟩
      obtain ⟨e1, e2⟩ := c3 j (by omega)
      rw [e1, e2]; exact d4 j hj
theorem R7_dI {na nk : Nat} {an lp c28 c29 m30 m31 : Nat → Int32} {c108 c109 m109 : Int32} {c33 : Nat → Option Nat} {nK : Nat} {dI dI' : Nat → Nat → Int32} {m32 m33 : Nat → Int32} (hd : ∀ j, dI' (4 * j + 2) = dI (4 * j + 2) ∧ dI' (4 * j + 3) = dI (4 * j + 3))
    (h : R7 na nk an lp c28 c29 m30 m31 c108 c109 m109 c33 nK dI m32 m33) : R7 na nk an lp c28 c29 m30 m31 c108 c109 m109 c33 nK dI' m32 m33 := by
  obtain ⟨a1, a2, a3, a4, o, a5, a6, a7, a8, a9⟩ := h
  refine ⟨a1, a2, a3, a4, o, a5, a6, fun t ht => ?_, a8, a9⟩
  obtain ⟨j, b1, b2⟩ := a7 t ht
  refine ⟨j, b1, ?_⟩
  rw [(hd j).1, (hd j).2]; exact b2
section
variable {ns nn na nr nk : Nat} {Mc Mm : Mem}
theorem rk_eq (h : RelN ns nn na nr nk Mc Mm) (x : Int32) : f_X11_rackOf Mc x = some (if inN x nr = true then some (cN_ x) else none) := by
  have h5 := h.2.2.2.2.1
  have hn : nr ≤ 8 := h5.2.2.1
  unfold f_X11_rackOf
  rw [h5.1, wi_p x (by omega)]
  cases e : inN x nr with
  | false => rfl
  | true =>
    obtain ⟨r, hr, rfl⟩ := inN_t e
    rw [bq_s, bT, ck_nI (by omega) (by omega), nI_clamp (by omega), h5.2.2.2.2.1 r hr, oq_s, if_pos rfl]
    unfold cN_
    rw [nI_clamp (by omega)]
theorem cN_n' {j : Nat} (h : j < 2 ^ 31) : cN_ (nI j) = j := nI_clamp h
theorem lack_eq (h : RelN ns nn na nr nk Mc Mm) {r : Nat} (hr : r < nr) (x z : Int64) : ∃ c : Nat, c < 3 ∧ f_X5_lack Mc r x z = some (nI c) ∧ f_X12_lacks Mm (nI r) x z = some (nI c) ∧
    (c = 0 → ∃ i j L, x = lN i ∧ z = lN j ∧ i < Mc.2.2.2.2.2 (r + 2) ∧ Mc.2.2.2.2.2 (r + 2) ≤ 20 ∧ j < L ∧ L ≤ 20 ∧ Mc.2.2.2.1 (4 * r + 1) i = nI L ∧ Mm.1 21 (20 * r + i) = nI L ∧ ∀ j, j < L → Mc.2.2.2.2.1 r (i * 20 + j) = Mm.2.1 22 (400 * r + 20 * i + j)) := by
  have h5 := h.2.2.2.2.1
  have hn : nr ≤ 8 := h5.2.2.1
  obtain ⟨b1, b2, b3, b4⟩ := h5.2.2.2.2.2.2 r hr
  unfold f_X5_lack f_X12_lacks
  rw [hr_eq rfl (by omega), ck_nI (by omega) (by omega), nI_clamp (by omega), b2, in_pL x (by omega)]
  cases e : inL x (Mc.2.2.2.2.2 (r + 2)) with
  | false => exact ⟨2, by decide, rfl, rfl, fun q => absurd q (by decide)⟩
  | true =>
    obtain ⟨i, hi, rfl⟩ := inL_t e (by omega)
    rw [bq_s, bq_s, bT, bT, lN_i, i_n20, pk_mul, nI_add, ck_nI (by omega) (by omega), ck_nI (by omega) (by omega), nI_clamp (by omega), nI_clamp (by omega)]
    rcases b4 i hi with ⟨d1, d2⟩ | ⟨L, d1, d2, d3, d4⟩
    · rw [d1, d2, if_pos rfl, if_pos rfl]
      exact ⟨1, by decide, rfl, rfl, fun q => absurd q (by decide)⟩
    · rw [d2, d3, if_neg (nN9 (by omega)), in_pL z (by omega), if_neg]
      · cases g : inL z L with
        | false =>
          refine ⟨2, by decide, ?_, rfl, fun q => absurd q (by decide)⟩
          by_cases z0 : z < 0
          · rw [if_pos z0]; rfl
          · rw [if_neg z0, if_pos]
            · rfl
            · rw [nI_l (by omega)]
              have := of_decide_eq_false g
              exact Int64.not_lt.mp (fun q => this ⟨z0, q⟩)
        | true =>
          have g' := of_decide_eq_true g
          refine ⟨0, by decide, ?_, rfl, fun _ => ?_⟩
          · rw [if_neg g'.1, nI_l (by omega), if_neg (Int64.not_le.mpr g'.2)]; rfl
          · obtain ⟨j, hj, rfl⟩ := inL_t g (by omega)
            exact ⟨i, j, L, rfl, rfl, hi, b1, hj, d1, d2, d3, d4⟩
      · intro q
        have := congrArg Int32.toInt q
        rw [nI_toInt (by omega)] at this
        have e2 : (-1 : Int32).toInt = -1 := by decide
        omega
theorem cut_eq (h : RelN ns nn na nr nk Mc Mm) {r : Nat} (hr : r < nr) (v : Int64) : ∃ u, f_X5_cut Mc r v = some u ∧ f_X12_cut (Mm.1 19 r) v = some u := by
  have h5 := h.2.2.2.2.1
  obtain ⟨b1, b2, b3, b4⟩ := h5.2.2.2.2.2.2 r hr
  unfold f_X5_cut f_X12_cut
  rw [b3]
  by_cases q0 : Mm.1 19 r = 0
  · rw [if_pos q0]; exact ⟨_, rfl, rfl⟩
  · rw [if_neg q0]
    by_cases q1 : Mm.1 19 r = 1
    · rw [if_pos q1]; exact ⟨_, rfl, rfl⟩
    · rw [if_neg q1]
      by_cases q2 : Mm.1 19 r = 2
      · rw [if_pos q2]; exact ⟨_, rfl, rfl⟩
      · rw [if_neg q2]; exact ⟨_, rfl, rfl⟩
theorem store_rel (h : RelN ns nn na nr nk Mc Mm) {r i j L : Nat} {u : Int64} (hr : r < nr) (hi : i < Mc.2.2.2.2.2 (r + 2)) (hN : Mc.2.2.2.2.2 (r + 2) ≤ 20) (hj : j < L) (hL : L ≤ 20) (d2 : Mc.2.2.2.1 (4 * r + 1) i = nI L) (d3 : Mm.1 21 (20 * r + i) = nI L)
    (d4 : ∀ j, j < L → Mc.2.2.2.2.1 r (i * 20 + j) = Mm.2.1 22 (400 * r + 20 * i + j)) : RelN ns nn na nr nk (tL Mc r (i * 20 + j) u) (sL Mm 22 (400 * r + 20 * i + j) u) := by
  obtain ⟨h1, h2, h3, h4, h5, h6, h7, h8⟩ := h
  refine ⟨h1, h2, h3, h4, ?_, h6, h7, h8⟩
  refine R5_put (r := r) (i := i) h5 hr hi (fun q => rfl) (fun r' i' hi' q => ⟨rfl, rfl, fun j' hj' => ⟨?_, ?_⟩⟩) (.inr ⟨L, hL, d2, d3, fun j' hj' => ?_⟩)
  · show va_up Mc.2.2.2.2.1 r (vp_updL (Mc.2.2.2.2.1 r) (i * 20 + j) u) r' (i' * 20 + j') = Mc.2.2.2.2.1 r' (i' * 20 + j')
    by_cases z : r' = r
    · subst z
      rw [va_up_self, pk_uLn]
      intro z2
      exact q ⟨rfl, by omega⟩
    · rw [va_up_ne _ _ z]
  · show vp_updL (Mm.2.1 22) (400 * r + 20 * i + j) u (400 * r' + 20 * i' + j') = _
    rw [pk_uLn]
    intro z2
    exact q ⟨by omega, by omega⟩
  · show va_up Mc.2.2.2.2.1 r (vp_updL (Mc.2.2.2.2.1 r) (i * 20 + j) u) r (i * 20 + j') = vp_updL (Mm.2.1 22) (400 * r + 20 * i + j) u (400 * r + 20 * i + j')
    rw [va_up_self]
    by_cases z : j' = j
    · rw [z, pk_uLs, pk_uLs]
    · rw [pk_uLn (by omega), pk_uLn (by omega)]; exact d4 j' hj'
end
theorem sim_lay : Sim_lay Rel := by
  intro Mc Mm y0 y1 y2 y3 ⟨ns, nn, na, nr, nk, h⟩
  have h5 := h.2.2.2.2.1
  have hn : nr ≤ 8 := h5.2.2.1
  unfold f_X11_lay f_X12_lay
  rw [rk_eq h, ar_eq h5.2.1 (by omega)]
  cases e : inN y0 nr with
  | false => exact same_go h _
  | true =>
    obtain ⟨r, hr, rfl⟩ := inN_t e
    rw [bq_s, bq_s, bT, if_pos rfl, cN_n' (by omega), oq_s, h5.2.2.2.1, cN_n hr]
    obtain ⟨c, hc, l1, l2, l3⟩ := lack_eq h hr y1.toInt64 y2.toInt64
    rw [l1, l2, bq_s, bq_s]
    by_cases q : c = 0
    · obtain ⟨i, j, L, e1, e2, hi, hN, hj, hL, d2, d3, d4⟩ := l3 q
      have f1 : y1 = nI i := by rw [← t64_32 y1, e1, lN_i]
      have f2 : y2 = nI j := by rw [← t64_32 y2, e2, lN_i]
      subst q f1 f2
      obtain ⟨u, u1, u2⟩ := cut_eq h hr y3
      unfold f_X5_store f_X12_at
      rw [if_pos nI_0, if_pos (show nI 0 ≤ 0 by decide), bq_s, nI_clamp (by omega), ck_nI (by omega) (by omega), u2, bq_s, u1, bq_s, t64_32, t64_32, i_n20, pk_mul, nI_add, pk_mul, show (400 : Int32) = nI 400 from rfl, pk_mul, nI_add, nI_add, ck_nI (by omega) (by omega), ck_nI (by omega) (by omega), nI_clamp (by omega), nI_clamp (by omega), bm_s]
      exact ⟨_, _, _, rfl, rfl, ns, nn, na, nr, nk, store_rel h hr hi hN hj hL d2 d3 d4⟩
    · rw [if_neg (nI_ne0 (by omega) (by omega)), if_neg (nI_nle (by omega) (by omega))]
      exact meet_go h c (by omega) rfl
theorem sim_get : Sim_get Rel := by
  intro Mc Mm y0 y1 y2 ⟨ns, nn, na, nr, nk, h⟩
  have h5 := h.2.2.2.2.1
  have hn : nr ≤ 8 := h5.2.2.1
  unfold f_X11_get f_X12_get
  rw [rk_eq h, ar_eq h5.2.1 (by omega)]
  cases e : inN y0 nr with
  | false => exact same_go h _
  | true =>
    obtain ⟨r, hr, rfl⟩ := inN_t e
    rw [bq_s, bq_s, bT, if_pos rfl, cN_n' (by omega), oq_s, h5.2.2.2.1, cN_n hr]
    obtain ⟨c, hc, l1, l2, l3⟩ := lack_eq h hr y1.toInt64 y2.toInt64
    rw [l1, l2, bq_s, bq_s]
    by_cases q : c = 0
    · obtain ⟨i, j, L, e1, e2, hi, hN, hj, hL, d2, d3, d4⟩ := l3 q
      have f1 : y1 = nI i := by rw [← t64_32 y1, e1, lN_i]
      have f2 : y2 = nI j := by rw [← t64_32 y2, e2, lN_i]
      subst q f1 f2
      unfold f_X5_load f_X12_at
      rw [if_pos nI_0, if_pos (show nI 0 ≤ 0 by decide), bq_s, t64_32, t64_32, i_n20, pk_mul, nI_add, pk_mul, show (400 : Int32) = nI 400 from rfl, pk_mul, nI_add, nI_add, ck_nI (by omega) (by omega), ck_nI (by omega) (by omega), nI_clamp (by omega), nI_clamp (by omega), bq_s, d4 j hj]
      obtain ⟨h1, h2, h3, h4, h5, ⟨a1, a2, a3, a4, a5, a6, a7⟩, h7, h8⟩ := h
      exact ⟨_, _, _, rfl, rfl, ns, nn, na, nr, nk, h1, h2, h3, h4, h5, ⟨rfl, a2, a3, a4, a5, a6, a7⟩, h7, h8⟩
    · rw [if_neg (nI_ne0 (by omega) (by omega)), if_neg (nI_nle (by omega) (by omega))]
      exact meet_go h c (by omega) rfl
theorem sim_tear : Sim_tear Rel := by
  intro Mc Mm y0 y1 ⟨ns, nn, na, nr, nk, h⟩
  have h5 := h.2.2.2.2.1
  have hn : nr ≤ 8 := h5.2.2.1
  unfold f_X11_tear f_X12_tear
  rw [rk_eq h, ar_eq h5.2.1 (by omega)]
  cases e : inN y0 nr with
  | false => exact same_go h _
  | true =>
    obtain ⟨r, hr, rfl⟩ := inN_t e
    obtain ⟨b1, b2, b3, b4⟩ := h5.2.2.2.2.2.2 r hr
    rw [bq_s, bq_s, bT, if_pos rfl, cN_n' (by omega), oq_s, h5.2.2.2.1, cN_n hr, hr_eq rfl (by omega), ck_nI (by omega) (by omega), nI_clamp (by omega), b2, in_pL _ (by omega)]
    cases g : inL y1.toInt64 (Mc.2.2.2.2.2 (r + 2)) with
    | false => exact meet_go h 2 (by decide) rfl
    | true =>
      obtain ⟨i, hi, rfl⟩ := inL_32 g (by omega)
      rw [bq_s, bq_s, bT, bT, i_n20, pk_mul, nI_add, ck_nI (by omega) (by omega), ck_nI (by omega) (by omega), nI_clamp (by omega), nI_clamp (by omega)]
      obtain ⟨h1, h2, h3, h4, h5, h6, h7, h8⟩ := h
      refine ⟨_, _, _, rfl, rfl, ns, nn, na, nr, nk, h1, h2, h3, h4, ?_, h6, R7_dI (fun j => ⟨va_up_ne _ _ (by omega), va_up_ne _ _ (by omega)⟩) h7, h8⟩
      refine R5_put (r := r) (i := i) h5 hr hi (fun q => va_up_ne _ _ (by omega)) (fun r' i' hi' q => ⟨?_, ?_, fun j' hj' => ⟨rfl, rfl⟩⟩) (.inl ⟨?_, pk_us⟩)
      · show va_up Mc.2.2.2.1 (4 * r + 1) (upd (Mc.2.2.2.1 (4 * r + 1)) i (-1)) (4 * r' + 1) i' = _
        by_cases z : r' = r
        · subst z
          rw [va_up_self, pk_un (fun z2 => q ⟨rfl, z2⟩)]
        · rw [va_up_ne _ _ (by omega)]
      · show upd (Mm.1 21) (20 * r + i) (-9) (20 * r' + i') = _
        rw [pk_un]
        intro z2
        exact q ⟨by omega, by omega⟩
      · show va_up Mc.2.2.2.1 (4 * r + 1) (upd (Mc.2.2.2.1 (4 * r + 1)) i (-1)) (4 * r + 1) i = -1
        rw [va_up_self, pk_us]
theorem row_loop {r i : Nat} (hr : r < 8) (hi : i < 20) (L : Int32) : ∀ (m k fuel : Nat) (M : Mem), k + m = 20 → m < fuel → f_X12_row_65 fuel (nI r) (nI i) L (nI k) M = some (L, fL M 22 (400 * r + 20 * i + k) (400 * r + 20 * i + 20) 0) := by
  intro m
  induction m with
  | zero =>
    intro k fuel M hk hf
    obtain ⟨f, rfl⟩ : ∃ f, fuel = f + 1 := ⟨fuel - 1, by omega⟩
    have e : k = 20 := by omega
    subst e
    rw [f_X12_row_65, if_pos (by decide), fL_nil]
  | succ m ih =>
    intro k fuel M hk hf
    obtain ⟨f, rfl⟩ : ∃ f, fuel = f + 1 := ⟨fuel - 1, by omega⟩
    rw [f_X12_row_65, i_n20, if_neg (nI_ge (by omega) (by omega)), show (400 : Int32) = nI 400 from rfl, pk_mul, pk_mul, nI_add, nI_add, ck_nI (by omega) (by omega), nI_clamp (by omega), nI_1, ih (k + 1) f _ (by omega) (by omega), ← Nat.add_assoc, fL_step (by omega)]
theorem sim_row : Sim_row Rel := by
  intro Mc Mm y0 y1 y2 ⟨ns, nn, na, nr, nk, h⟩
  have h5 := h.2.2.2.2.1
  have hn : nr ≤ 8 := h5.2.2.1
  unfold f_X11_row f_X12_row
  rw [rk_eq h, ar_eq h5.2.1 (by omega)]
  cases e : inN y0 nr with
  | false => exact same_go h _
  | true =>
    obtain ⟨r, hr, rfl⟩ := inN_t e
    obtain ⟨b1, b2, b3, b4⟩ := h5.2.2.2.2.2.2 r hr
    rw [bq_s, bq_s, bT, if_pos rfl, cN_n' (by omega), oq_s]
    by_cases q20 : y2 ≤ 20
    · rw [if_pos q20, if_pos q20, h5.2.2.2.1, cN_n hr, hr_eq rfl (by omega), ck_nI (by omega) (by omega), nI_clamp (by omega), b2, in_pL _ (by omega)]
      cases g : inL y1.toInt64 (Mc.2.2.2.2.2 (r + 2)) with
      | false => exact meet_go h 2 (by decide) rfl
      | true =>
        obtain ⟨i, hi, rfl⟩ := inL_32 g (by omega)
        rw [bq_s, bq_s, bT, bT]
        by_cases q0 : 0 ≤ y2
        · rw [if_pos q0, if_pos q0]
          obtain ⟨L, hL, rfl⟩ := nI_of2 (x := y2) (M := 20) (n := 20) (by decide) (Int32.not_lt.mpr q0) q20
          unfold f_X5_renew
          have eN : (tI Mc (4 * r + 1) i (nI L)).2.2.2.2.2 (r + 2) = Mc.2.2.2.2.2 (r + 2) := rfl
          rw [i_n20, pk_mul, pk_mul, nI_add, nI_add, ck_nI (by omega) (by omega), ck_nI (by omega) (by omega), nI_clamp (by omega), nI_clamp (by omega), eN, cf_nI (by omega) (by omega) (by omega), cN_n (by omega), nI_clamp (by omega), nI_clamp (by omega), bm_s, i_n0, row_loop (by omega) (by omega) (nI L) 20 0 100000 _ rfl (by omega)]
          obtain ⟨h1, h2, h3, h4, h5, h6, h7, h8⟩ := h
          refine ⟨_, _, _, rfl, rfl, ns, nn, na, nr, nk, h1, h2, h3, h4, ?_, h6, R7_dI (fun j => ⟨va_up_ne _ _ (by omega), va_up_ne _ _ (by omega)⟩) h7, h8⟩
          refine R5_put (r := r) (i := i) h5 hr hi (fun q => va_up_ne _ _ (by omega)) (fun r' i' hi' q => ⟨?_, ?_, fun j' hj' => ⟨?_, ?_⟩⟩) (.inr ⟨L, hL, ?_, pk_us, fun j hj => ?_⟩)
          · show va_up Mc.2.2.2.1 (4 * r + 1) (upd (Mc.2.2.2.1 (4 * r + 1)) i (nI L)) (4 * r' + 1) i' = _
            by_cases z : r' = r
            · subst z
              rw [va_up_self, pk_un (fun z2 => q ⟨rfl, z2⟩)]
            · rw [va_up_ne _ _ (by omega)]
          · show upd (Mm.1 21) (20 * r + i) (nI L) (20 * r' + i') = _
            rw [pk_un]
            intro z2
            exact q ⟨by omega, by omega⟩
          · show va_up Mc.2.2.2.2.1 r (fl_ (Mc.2.2.2.2.1 r) (i * 20) (i * 20 + L) 0) r' (i' * 20 + j') = _
            by_cases z : r' = r
            · subst z
              rw [va_up_self, fl_out]
              intro z2
              exact q ⟨rfl, by omega⟩
            · rw [va_up_ne _ _ z]
          · show fl_ (Mm.2.1 22) (400 * r + 20 * i + 0) (400 * r + 20 * i + 20) 0 (400 * r' + 20 * i' + j') = _
            rw [fl_out]
            intro z2
            exact q ⟨by omega, by omega⟩
          · show va_up Mc.2.2.2.1 (4 * r + 1) (upd (Mc.2.2.2.1 (4 * r + 1)) i (nI L)) (4 * r + 1) i = nI L
            rw [va_up_self, pk_us]
          · show va_up Mc.2.2.2.2.1 r (fl_ (Mc.2.2.2.2.1 r) (i * 20) (i * 20 + L) 0) r (i * 20 + j) = fl_ (Mm.2.1 22) (400 * r + 20 * i + 0) (400 * r + 20 * i + 20) 0 (400 * r + 20 * i + j)
            rw [va_up_self, fl_in ⟨by omega, by omega⟩, fl_in ⟨by omega, by omega⟩]
        · rw [if_neg q0, if_neg q0]; exact meet_go h 5 (by decide) rfl
    · rw [if_neg q20, if_neg q20]; exact same_go h _
