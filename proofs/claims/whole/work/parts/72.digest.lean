/-! the pure half: digest -/
def fl31 (g : Nat → Int64) : Int64 → Nat → Nat → Int64
  | h, _, 0 => h
  | h, t, m + 1 => fl31 g (31 * h + g t) (t + 1) m
theorem fl31_add (g : Nat → Int64) : ∀ m n h t, fl31 g h t (m + n) = fl31 g (fl31 g h t m) (t + m) n := by
  intro m
  induction m with
  | zero => intro n h t; rw [Nat.zero_add]; rfl
  | succ m ih =>
    intro n h t
    rw [Nat.succ_add]
    show fl31 g (31 * h + g t) (t + 1) (m + n) = fl31 g (fl31 g (31 * h + g t) (t + 1) m) (t + (m + 1)) n
    rw [ih, show t + 1 + m = t + (m + 1) by omega]
theorem fl31_cg {g g' : Nat → Int64} : ∀ m h t, (∀ j, t ≤ j → j < t + m → g j = g' j) → fl31 g h t m = fl31 g' h t m := by
  intro m
  induction m with
  | zero => intro h t _; rfl
  | succ m ih =>
    intro h t hg
    show fl31 g (31 * h + g t) (t + 1) m = fl31 g' (31 * h + g' t) (t + 1) m
    rw [hg t (by omega) (by omega)]
    exact ih _ _ (fun j a b => hg j (by omega) (by omega))
section
variable {ns nn na nr nk : Nat} {Mc Mm : Mem}
/-- the rows of one array -/
theorem dg_row {r i L : Nat} {kc : Nat → Int64 → Int32 → Mem → Option Int64} {km : Int64 → Int32 → Int32 → Mem → Option Int64} (hr : r < 8) (hrn : r < Mc.2.2.2.2.2 0) (hN : Mc.2.2.2.2.2 (r + 2) ≤ 20) (hi : i < Mc.2.2.2.2.2 (r + 2)) (hL : L ≤ 20) (e1 : Mc.2.2.2.1 (4 * r + 1) i = nI L) (e3 : ∀ j, j < L → Mc.2.2.2.2.1 r (i * 20 + j) = Mm.2.1 22 (400 * r + 20 * i + j)) :
    ∀ m j f f' h, j + m = L → m < f → m < f' → ∃ v, f_X5_mix_28 kc f r h (nI i) (nI j) Mc = kc r v (nI (i + 1)) Mc ∧ f_X12_digest_223 km f' h (nI r) (nI i) (nI L) (nI j) Mm = km v (nI r) (nI (i + 1)) Mm := by
  intro m
  induction m with
  | zero =>
    intro j f f' h hj hf hf'
    obtain ⟨f, rfl⟩ : ∃ g, f = g + 1 := ⟨f - 1, by omega⟩
    obtain ⟨f', rfl⟩ : ∃ g, f' = g + 1 := ⟨f' - 1, by omega⟩
    rw [f_X5_mix_28, f_X12_digest_223, cN_n hrn, ck_nI hi (by omega), nI_clamp (by omega), e1, if_pos (nI_le (by omega) (by omega)), if_pos (nI_le (by omega) (by omega)), nI_1]
    exact ⟨h, rfl, rfl⟩
  | succ m ih =>
    intro j f f' h hj hf hf'
    obtain ⟨f, rfl⟩ : ∃ g, f = g + 1 := ⟨f - 1, by omega⟩
    obtain ⟨f', rfl⟩ : ∃ g, f' = g + 1 := ⟨f' - 1, by omega⟩
    rw [f_X5_mix_28, f_X12_digest_223, cN_n hrn, ck_nI hi (by omega), nI_clamp (by omega), e1, if_neg (nI_ge (by omega) (by omega)), if_neg (nI_ge (by omega) (by omega)), nI_1]
    unfold f_X5_load f_X12_at
    rw [t64_32, t64_32, i_n20, show (400 : Int32) = nI 400 from rfl, pk_mul, nI_add, pk_mul, pk_mul, nI_add, nI_add, ck_nI (by omega) (by omega), bq_s, bq_s, ck_nI (by omega) (by omega), nI_clamp (by omega), nI_clamp (by omega), e3 j (by omega)]
    exact ih (j + 1) f f' _ (by omega) (by omega) (by omega)
theorem dg_arr (h : RelN ns nn na nr nk Mc Mm) {r : Nat} (hr : r < nr) {km : Int64 → Int32 → Mem → Option Int64} : ∀ m i f f' x, i + m = Mc.2.2.2.2.2 (r + 2) → m < f → m < f' → ∃ v, f_X5_mix_2 f r x (nI i) Mc = some v ∧ f_X12_digest_174 km f' x (nI r) (nI i) Mm = km v (nI (r + 1)) Mm := by
  have h5 := h.2.2.2.2.1
  have hn : nr ≤ 8 := h5.2.2.1
  obtain ⟨b1, b2, b3, b4⟩ := h5.2.2.2.2.2.2 r hr
  have hrn : r < Mc.2.2.2.2.2 0 := by rw [h5.2.2.2.1]; exact hr
  intro m
  induction m with
  | zero =>
    intro i f f' x hi hf hf'
    obtain ⟨f, rfl⟩ : ∃ g, f = g + 1 := ⟨f - 1, by omega⟩
    obtain ⟨f', rfl⟩ : ∃ g, f' = g + 1 := ⟨f' - 1, by omega⟩
    rw [f_X5_mix_2, f_X12_digest_174, cN_n hrn, ck_nI (show r < 8 by omega) (by omega), nI_clamp (show r < 2 ^ 31 by omega), b2]
    simp only [if_pos (show nI (Mc.2.2.2.2.2 (r + 2)) ≤ nI i from nI_le (by omega) (by omega)), nI_1]
    exact ⟨x, rfl, rfl⟩
  | succ m ih =>
    intro i f f' x hi hf hf'
    obtain ⟨f, rfl⟩ : ∃ g, f = g + 1 := ⟨f - 1, by omega⟩
    obtain ⟨f', rfl⟩ : ∃ g, f' = g + 1 := ⟨f' - 1, by omega⟩
    rw [f_X5_mix_2, f_X12_digest_174, cN_n hrn, ck_nI (show r < 8 by omega) (by omega), nI_clamp (show r < 2 ^ 31 by omega), b2]
    simp only [if_neg (show ¬ nI (Mc.2.2.2.2.2 (r + 2)) ≤ nI i from nI_ge (by omega) (by omega))]
    rw [ck_nI (show i < Mc.2.2.2.2.2 (r + 2) by omega) (by omega), nI_clamp (show i < 2 ^ 31 by omega), i_n20, pk_mul, nI_add, ck_nI (by omega) (by omega), nI_clamp (by omega)]
    rcases b4 i (by omega) with ⟨d1, d2⟩ | ⟨L, d1, d2, d3, d4⟩
    · rw [d1, d2, if_pos rfl, i_n0]
      have ee : ∀ y, f_X5_mix_28 (f_X5_mix_2 f) 100000 r y (nI i) (nI 0) Mc = f_X5_mix_2 f r y (nI (i + 1)) Mc := fun y => by
        rw [show (100000 : Nat) = 99999 + 1 from rfl, f_X5_mix_28, cN_n hrn, ck_nI (by omega) (by omega), nI_clamp (by omega), d1, if_pos (by decide), nI_1]
      have em : ∀ y, f_X12_digest_223 (f_X12_digest_174 km f') 100000 y (nI r) (nI i) (-9) (nI 0) Mm = f_X12_digest_174 km f' y (nI r) (nI (i + 1)) Mm := fun y => by
        rw [show (100000 : Nat) = 99999 + 1 from rfl, f_X12_digest_223, if_pos (by decide), nI_1]
      rw [ee, em]
      exact ih (i + 1) f f' _ (by omega) (by omega) (by omega)
    · rw [d2, d3, if_neg (nN9 (by omega)), i_n0]
      obtain ⟨v, v1, v2⟩ := dg_row (Mc := Mc) (Mm := Mm) (r := r) (i := i) (L := L) (kc := f_X5_mix_2 f) (km := f_X12_digest_174 km f') (by omega) hrn b1 (by omega) d1 d2 d4 L 0 100000 100000 (31 * x + (nI L).toInt64) (by omega) (by omega) (by omega)
      rw [v1, v2]
      exact ih (i + 1) f f' _ (by omega) (by omega) (by omega)
theorem dg_arrs (h : RelN ns nn na nr nk Mc Mm) : ∀ m r f f' x, r + m = nr → m < f → m < f' → ∃ v, f_X11_digest_107 f x (nI r) Mc = some v ∧ f_X12_digest_163 f' x (nI r) Mm = some v := by
  have h5 := h.2.2.2.2.1
  have hn : nr ≤ 8 := h5.2.2.1
  intro m
  induction m with
  | zero =>
    intro r f f' x hr hf hf'
    obtain ⟨f, rfl⟩ : ∃ g, f = g + 1 := ⟨f - 1, by omega⟩
    obtain ⟨f', rfl⟩ : ∃ g, f' = g + 1 := ⟨f' - 1, by omega⟩
    rw [f_X11_digest_107, f_X12_digest_163, h5.1, h5.2.1, if_pos (nI_le (by omega) (by omega)), if_pos (nI_le (by omega) (by omega))]
    exact ⟨x, rfl, rfl⟩
  | succ m ih =>
    intro r f f' x hr hf hf'
    obtain ⟨f, rfl⟩ : ∃ g, f = g + 1 := ⟨f - 1, by omega⟩
    obtain ⟨f', rfl⟩ : ∃ g, f' = g + 1 := ⟨f' - 1, by omega⟩
    have hN := (h5.2.2.2.2.2.2 r (by omega)).1
    obtain ⟨v, v1, v2⟩ := dg_arr h (r := r) (by omega) (km := f_X12_digest_163 f') (Mc.2.2.2.2.2 (r + 2)) 0 100000 100000 x (by omega) (by omega) (by omega)
    rw [f_X11_digest_107, f_X12_digest_163, h5.1, h5.2.1, if_neg (nI_ge (by omega) (by omega)), if_neg (nI_ge (by omega) (by omega)), rk_eq h, inN_nI (by omega) (by omega), if_pos rfl, bq_s, cN_n' (by omega), oq_s, h5.2.2.2.1, cN_n (by omega)]
    unfold f_X5_mix
    rw [i_n0, v1, bq_s, v2, nI_1]
    exact ih (r + 1) f f' v (by omega) (by omega) (by omega)
/-- the orders -/
theorem dg_c {k3 : Int64 → Int32 → Int32 → Mem → Option Int64} {x3 x4 : Int32} {b e : Nat} (he : b + e ≤ 1344) : ∀ m t f x, t + m = e → m < f → f_X7_mix_33 k3 f x x3 x4 (nI (b + e)) (nI (b + t)) Mc = k3 (fl31 (fun j => (Mc.1 28 (b + j)).toInt64) x t m) x3 (x4 + 1) Mc := by
  intro m
  induction m with
  | zero =>
    intro t f x ht hf
    obtain ⟨f, rfl⟩ : ∃ g, f = g + 1 := ⟨f - 1, by omega⟩
    rw [f_X7_mix_33, if_pos (nI_le (by omega) (by omega))]
    rfl
  | succ m ih =>
    intro t f x ht hf
    obtain ⟨f, rfl⟩ : ∃ g, f = g + 1 := ⟨f - 1, by omega⟩
    rw [f_X7_mix_33, if_neg (nI_ge (by omega) (by omega)), ck_nI (by omega) (by omega), nI_clamp (by omega), nI_1, show b + t + 1 = b + (t + 1) by omega, ih (t + 1) f _ (by omega) (by omega)]
    rfl
theorem dg_m7 {k90 : Int64 → Int32 → Int32 → Mem → Option Int64} {k i : Nat} (hk : k < 40) (hi : i < 16) : ∀ m c f x, c + m = 7 → m < f → f_X12_digest_114 k90 f x (nI k) (nI i) (nI c) Mm = k90 (fl31 (fun j => (Mm.1 31 (7 * (16 * k) + j)).toInt64) x (7 * i + c) m) (nI k) (nI (i + 1)) Mm := by
  intro m
  induction m with
  | zero =>
    intro c f x hc hf
    obtain ⟨f, rfl⟩ : ∃ g, f = g + 1 := ⟨f - 1, by omega⟩
    rw [f_X12_digest_114, i_n7, if_pos (nI_le (by omega) (by omega)), nI_1]
    rfl
  | succ m ih =>
    intro c f x hc hf
    obtain ⟨f, rfl⟩ : ∃ g, f = g + 1 := ⟨f - 1, by omega⟩
    unfold f_X12_digest_114 f_X12_rowAt
    rw [i_n7, if_neg (nI_ge (by omega) (by omega)), bq_s, i_n16, pk_mul, nI_add, pk_mul, nI_add, ck_nI (by omega) (by omega), nI_clamp (by omega), nI_1, ih (c + 1) f _ (by omega) (by omega)]
    show k90 (fl31 _ (31 * x + (Mm.1 31 (7 * (16 * k + i) + c)).toInt64) (7 * i + (c + 1)) m) _ _ _ = k90 (fl31 _ (31 * x + (Mm.1 31 (7 * (16 * k) + (7 * i + c))).toInt64) (7 * i + c + 1) m) _ _ _
    rw [show 7 * (16 * k + i) + c = 7 * (16 * k) + (7 * i + c) by omega, show 7 * i + (c + 1) = 7 * i + c + 1 by omega]
theorem dg_m {k79 : Int64 → Int32 → Mem → Option Int64} {k q : Nat} (hk : k < 40) (hq : q ≤ 16) (e30 : Mm.1 30 k = nI q) (e6 : Mm.1 6 k = 3) : ∀ m i f x, i + m = q → m < f → f_X12_digest_90 k79 f x (nI k) (nI i) Mm = k79 (fl31 (fun j => (Mm.1 31 (7 * (16 * k) + j)).toInt64) x (7 * i) (7 * m)) (nI (k + 1)) Mm := by
  intro m
  induction m with
  | zero =>
    intro i f x hi hf
    obtain ⟨f, rfl⟩ : ∃ g, f = g + 1 := ⟨f - 1, by omega⟩
    rw [f_X12_digest_90, ck40 hk, nI_clamp (by omega), e30, if_pos (nI_le (by omega) (by omega)), nI_1]
    rfl
  | succ m ih =>
    intro i f x hi hf
    obtain ⟨f, rfl⟩ : ∃ g, f = g + 1 := ⟨f - 1, by omega⟩
    rw [f_X12_digest_90, ck40 hk, nI_clamp (by omega), e30, if_neg (nI_ge (by omega) (by omega)), ck40 hk, if_pos e6, i_n0, dg_m7 hk (by omega) 7 0 100000 x (by omega) (by omega), ih (i + 1) f _ (by omega) (by omega), show 7 * (m + 1) = 7 + 7 * m by omega, fl31_add, Nat.add_zero, show 7 * (i + 1) = 7 * i + 7 by omega]
theorem dg_ord (h : RelN ns nn na nr nk Mc Mm) (x : Int64) : ∃ v, f_X7_mix Mc x (nI na) = some v ∧ f_X12_digest_79 100000 x (nI 0) Mm = f_X12_digest_163 100000 v 0 Mm := by
  have h2 := h.2.1
  have hn : nn ≤ 40 := h2.2.2.1
  have hna : na ≤ 12 := h2.2.2.2.2.2.1
  have hC := h2.2.2.2.2.2.2.2.2.2.2.2
  have k1 := h2.2.2.2.2.2.2.1.1
  unfold f_X7_mix
  rw [i_n0]
  refine acts_ind hC hn (fun k a => ∀ f f' x, nn - k < f' → na - a < f → ∃ v, f_X7_mix_3 f x (nI na) (nI a) Mc = some v ∧ f_X12_digest_79 f' x (nI k) Mm = f_X12_digest_163 100000 v 0 Mm) ?_ ?_ ?_ 100000 100000 x (by omega) (by omega)
  · intro f f' x hf' hf
    obtain ⟨f, rfl⟩ : ∃ g, f = g + 1 := ⟨f - 1, by omega⟩
    obtain ⟨f', rfl⟩ : ∃ g, f' = g + 1 := ⟨f' - 1, by omega⟩
    rw [f_X7_mix_3, f_X12_digest_79, h2.2.1, if_pos (nI_le (Nat.le_refl _) (by omega)), if_pos (nI_le (Nat.le_refl _) (by omega))]
    exact ⟨x, rfl, rfl⟩
  · intro k a hk ha h3 ih f f' x hf' hf
    obtain ⟨f', rfl⟩ : ∃ g, f' = g + 1 := ⟨f' - 1, by omega⟩
    have e : f_X12_digest_90 (f_X12_digest_79 f') 100000 x (nI k) 0 Mm = f_X12_digest_79 f' x (nI (k + 1)) Mm := by
      rw [show (100000 : Nat) = 99999 + 1 from rfl, f_X12_digest_90, ck40 (by omega), ck40 (by omega), nI_clamp (by omega), if_neg (show ¬ Mm.1 6 k = 3 by rw [← k1]; exact h3), nI_1]
      by_cases z : Mm.1 30 k ≤ 0
      · rw [if_pos z]
      · rw [if_neg z]
    rw [f_X12_digest_79, h2.2.1, if_neg (nI_ge hk (by omega)), e]
    exact ih f f' x (by omega) hf
  · intro k a hk ha h3 han hao ih f f' x hf' hf
    obtain ⟨f, rfl⟩ : ∃ g, f = g + 1 := ⟨f - 1, by omega⟩
    obtain ⟨f', rfl⟩ : ∃ g, f' = g + 1 := ⟨f' - 1, by omega⟩
    obtain ⟨qq, o1, o2, o3, o4⟩ := h.2.2.2.2.2.2.1.1 a ha
    have ek : cN_ (Mc.1 16 a) = k := by rw [han]; exact cN_n' (by omega)
    rw [ek] at o2 o3 o4
    have hqq : qq ≤ 16 := o4.2.1
    rw [f_X7_mix_3, f_X12_digest_79, h2.2.1, if_neg (nI_ge ha (by omega)), if_neg (nI_ge hk (by omega)), ck_nI (by omega) (by omega), nI_clamp (by omega), o1]
    unfold f_X7_at
    rw [bq_s, bq_s, i_n16, i_n7, i_n0, pk_mul, nI_add, nI_add, pk_mul, pk_mul, show (a * 16 + qq) * 7 = a * 16 * 7 + qq * 7 by omega, show (a * 16 + 0) * 7 = a * 16 * 7 + 0 by omega, dg_c (by omega) (qq * 7) 0 100000 x (by omega) (by omega), nI_1, dg_m (by omega) hqq o2 (by rw [← k1]; exact h3) qq 0 100000 x (by omega) (by omega)]
    have ee : fl31 (fun j => (Mc.1 28 (a * 16 * 7 + j)).toInt64) x 0 (qq * 7) = fl31 (fun j => (Mm.1 31 (7 * (16 * k) + j)).toInt64) x (7 * 0) (7 * qq) := by
      rw [show 7 * qq = qq * 7 by omega]
      refine fl31_cg _ _ _ (fun j _ hj => ?_)
      have := o3 (j / 7) (by omega) (j % 7) (by omega)
      show (Mc.1 28 (a * 16 * 7 + j)).toInt64 = (Mm.1 31 (7 * (16 * k) + j)).toInt64
      rw [show a * 16 * 7 + j = (a * 16 + j / 7) * 7 + j % 7 by omega, show 7 * (16 * k) + j = 7 * (16 * k + j / 7) + j % 7 by omega, this]
    rw [ee]
    exact ih f f' _ (by omega) (by omega)
theorem dg_tell (h : RelN ns nn na nr nk Mc Mm) {n w : Nat} (hn : n < nn) (hw : w < 5) : ∃ v, f_X2_tell Mc (nI n) (nI w) = some v ∧ f_X12_node Mm (nI n) (nI w) = some v := by
  obtain ⟨r, Mc1, Mm1, ⟨a1, _⟩, ⟨a2, _⟩, _⟩ := sim_node Mc Mm (nI n) (nI w) ⟨ns, nn, na, nr, nk, h⟩
  refine ⟨r, ?_, a2⟩
  unfold f_X11_node at a1
  have hn' : nn ≤ 40 := h.2.1.2.2.1
  rw [kn_eq h.2.1.1 (by omega), wi_n (nI w) (b := 4) (m := 4) (n := 5) rfl rfl (by decide), inN_nI hn (by omega), inN_nI hw (by omega), bq_s, bT, bq_s, bT] at a1
  cases e : f_X2_tell Mc (nI n) (nI w) with
  | none => rw [e] at a1; cases a1
  | some v => rw [e] at a1; exact a1
theorem dg_nodes (h : RelN ns nn na nr nk Mc Mm) : ∀ m n f f' x, n + m = nn → m < f → m < f' → ∃ v, f_X11_digest_36 f x (nI n) Mc = bq (f_X7_mix Mc v (nI na)) (fun r4 => f_X11_digest_107 100000 r4 0 Mc) ∧ f_X12_digest_33 f' x (nI n) Mm = f_X12_digest_79 100000 v 0 Mm := by
  have h2 := h.2.1
  have hn : nn ≤ 40 := h2.2.2.1
  intro m
  induction m with
  | zero =>
    intro n f f' x hnm hf hf'
    obtain ⟨f, rfl⟩ : ∃ g, f = g + 1 := ⟨f - 1, by omega⟩
    obtain ⟨f', rfl⟩ : ∃ g, f' = g + 1 := ⟨f' - 1, by omega⟩
    rw [f_X11_digest_36, f_X12_digest_33, h2.1, h2.2.1, h2.2.2.2.1, if_pos (nI_le (by omega) (by omega)), if_pos (nI_le (by omega) (by omega))]
    exact ⟨x, rfl, rfl⟩
  | succ m ih =>
    intro n f f' x hnm hf hf'
    obtain ⟨f, rfl⟩ : ∃ g, f = g + 1 := ⟨f - 1, by omega⟩
    obtain ⟨f', rfl⟩ : ∃ g, f' = g + 1 := ⟨f' - 1, by omega⟩
    rw [f_X11_digest_36, f_X12_digest_33, h2.1, h2.2.1, if_neg (nI_ge (by omega) (by omega)), if_neg (nI_ge (by omega) (by omega)), i_n0]
    have inner : ∀ m w g g' y, w + m = 5 → m < g → m < g' → ∃ v, f_X11_digest_50 (f_X11_digest_36 f) g y (nI n) (nI w) Mc = f_X11_digest_36 f v (nI (n + 1)) Mc ∧ f_X12_digest_44 (f_X12_digest_33 f') g' y (nI n) (nI w) Mm = f_X12_digest_33 f' v (nI (n + 1)) Mm := by
      intro m
      induction m with
      | zero =>
        intro w g g' y hw hg hg'
        obtain ⟨g, rfl⟩ : ∃ z, g = z + 1 := ⟨g - 1, by omega⟩
        obtain ⟨g', rfl⟩ : ∃ z, g' = z + 1 := ⟨g' - 1, by omega⟩
        have : w = 5 := by omega
        subst this
        rw [f_X11_digest_50, f_X12_digest_44, if_pos (by decide), if_pos (by decide), nI_1]
        exact ⟨y, rfl, rfl⟩
      | succ m ihm =>
        intro w g g' y hw hg hg'
        obtain ⟨g, rfl⟩ : ∃ z, g = z + 1 := ⟨g - 1, by omega⟩
        obtain ⟨g', rfl⟩ : ∃ z, g' = z + 1 := ⟨g' - 1, by omega⟩
        obtain ⟨v, v1, v2⟩ := dg_tell h (n := n) (w := w) (by omega) (by omega)
        rw [f_X11_digest_50, f_X12_digest_44, if_neg (show ¬ (4 : Int32) < nI w from nI_nlt (a := 4) (by omega) (by omega)), if_neg (show ¬ (5 : Int32) ≤ nI w from nI_ge (b := 5) (by omega) (by omega)), v1, v2, bq_s, bq_s, nI_1]
        exact ihm (w + 1) g g' _ (by omega) (by omega) (by omega)
    obtain ⟨v, v1, v2⟩ := inner 5 0 100000 100000 x (by omega) (by omega) (by omega)
    rw [v1, v2]
    exact ih (n + 1) f f' v (by omega) (by omega) (by omega)
end
theorem sim_digest : Sim_digest Rel := by
  intro Mc Mm ⟨ns, nn, na, nr, nk, h⟩
  have a5 := h.1.2.2.2.2.1
  have hn : nn ≤ 40 := h.2.1.2.2.1
  have hr : nr ≤ 8 := h.2.2.2.2.1.2.2.1
  have siz : ∀ m k f f' x, k + m = 3 → m < f → m < f' → ∃ v, f_X11_digest_6 f x (nI k) Mc = f_X11_digest_36 100000 v 0 Mc ∧ f_X12_digest_6 f' x (nI k) Mm = f_X12_digest_33 100000 v 0 Mm := by
    intro m
    induction m with
    | zero =>
      intro k f f' x hk hf hf'
      obtain ⟨f, rfl⟩ : ∃ z, f = z + 1 := ⟨f - 1, by omega⟩
      obtain ⟨f', rfl⟩ : ∃ z, f' = z + 1 := ⟨f' - 1, by omega⟩
      have : k = 3 := by omega
      subst this
      rw [f_X11_digest_6, f_X12_digest_6, if_pos (by decide), if_pos (by decide)]
      exact ⟨x, rfl, rfl⟩
    | succ m ih =>
      intro k f f' x hk hf hf'
      obtain ⟨f, rfl⟩ : ∃ z, f = z + 1 := ⟨f - 1, by omega⟩
      obtain ⟨f', rfl⟩ : ∃ z, f' = z + 1 := ⟨f' - 1, by omega⟩
      rw [f_X11_digest_6, f_X12_digest_6, if_neg (show ¬ (3 : Int32) ≤ nI k from nI_ge (b := 3) (by omega) (by omega)), if_neg (show ¬ (3 : Int32) ≤ nI k from nI_ge (b := 3) (by omega) (by omega)), ck_nI (by omega) (by omega), ck_nI (by omega) (by omega), nI_clamp (by omega), nI_1, a5]
      exact ih (k + 1) f f' _ (by omega) (by omega) (by omega)
  obtain ⟨v, v1, v2⟩ := siz 3 0 100000 100000 17 (by omega) (by omega) (by omega)
  obtain ⟨w, w1, w2⟩ := dg_nodes h nn 0 100000 100000 v (by omega) (by omega) (by omega)
  obtain ⟨u, u1, u2⟩ := dg_ord h w
  obtain ⟨t, t1, t2⟩ := dg_arrs h nr 0 100000 100000 u (by omega) (by omega) (by omega)
  have c1 : f_X11_digest Mc = some t := by
    unfold f_X11_digest
    have v1' : f_X11_digest_6 100000 17 0 Mc = f_X11_digest_36 100000 v (nI 0) Mc := v1
    have t1' : f_X11_digest_107 100000 u 0 Mc = some t := t1
    rw [v1', w1, u1, bq_s, t1']
  have m1 : f_X12_digest Mm = some t := by
    unfold f_X12_digest
    have v2' : f_X12_digest_6 100000 17 0 Mm = f_X12_digest_33 100000 v (nI 0) Mm := v2
    have w2' : f_X12_digest_33 100000 v (nI 0) Mm = f_X12_digest_79 100000 w (nI 0) Mm := w2
    have u2' : f_X12_digest_79 100000 w (nI 0) Mm = f_X12_digest_163 100000 u (nI 0) Mm := u2
    rw [v2', w2', u2', t2]
  exact ⟨t, Mc, Mm, ⟨c1, rfl⟩, ⟨m1, rfl⟩, ns, nn, na, nr, nk, h⟩
