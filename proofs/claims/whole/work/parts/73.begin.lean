/-! the pure half: the first orders -/
/-- a row as it is at first -/
def rv (x l : Int32) (c : Nat) : Int32 := if c = 0 then x else if c = 5 then 1 else if c = 6 then l else if l ≠ -9 ∧ c = 1 + cN_ l then 1 else 0
section
variable {M : Mem}
theorem aP_eq {a i : Nat} (ha : a < 12) (hi : i < 16) (h29 : M.1 29 a = nI i) (x : Int32) : ∃ M', f_X7_addPlace M (nI a) x = some M' ∧ (∀ c, c ≠ 28 → c ≠ 29 → M'.1 c = M.1 c) ∧ M'.2 = M.2 ∧ M'.1 29 a = nI (i + 1) ∧ (∀ a', a' ≠ a → M'.1 29 a' = M.1 29 a') ∧ (∀ j, ¬ ((a * 16 + i) * 7 ≤ j ∧ j < (a * 16 + i) * 7 + 7) → M'.1 28 j = M.1 28 j) ∧ (∀ c, c < 7 → M'.1 28 ((a * 16 + i) * 7 + c) = rv x (-9) c) := by
  unfold f_X7_addPlace f_X7_addRow f_X7_at
  rw [ck_nI (by omega) (by omega), nI_clamp (by omega), h29, bq_s, i_n16, i_n7, pk_mul, nI_add, pk_mul, nI_add, cf_nI (by omega) (by omega) (by omega), i_n5, nI_add, ck_nI (by omega) (by omega), i_n6, nI_add, ck_nI (by omega) (by omega), ck_nI (by omega) (by omega), ck_nI (by omega) (by omega), nI_clamp (by omega), nI_clamp (by omega), nI_clamp (by omega), nI_clamp (by omega), bd_s, ck_nI (by omega) (by omega), nI_clamp (by omega)]
  generalize ht : (a * 16 + i) * 7 = t
  have e29 : (sI (sI (fI M 28 t (t + 7) 0) 28 (t + 5) 1) 28 (t + 6) (-9)).1 29 a = nI i := by rw [sI_n (by decide), sI_n (by decide), fI_n (by decide)]; exact h29
  rw [e29, nI_1]
  have v28 : (sI (sI (sI (sI (fI M 28 t (t + 7) 0) 28 (t + 5) 1) 28 (t + 6) (-9)) 29 a (nI (i + 1))) 28 t x).1 28 = upd (upd (upd (fl_ (M.1 28) t (t + 7) 0) (t + 5) 1) (t + 6) (-9)) t x := by
    rw [sI_e, sI_n (by decide), sI_e, sI_e, fI_e]
  refine ⟨_, rfl, fun c a b => ?_, rfl, ?_, fun a' ha' => ?_, fun j hj => ?_, fun c hc => ?_⟩
  · rw [sI_n a, sI_n b, sI_n a, sI_n a, fI_n a]
  · rw [sI_n (by decide), sI_e, pk_us]
  · rw [sI_n (by decide), sI_e, pk_un ha', sI_n (by decide), sI_n (by decide), fI_n (by decide)]
  · rw [v28, pk_un (by omega), pk_un (by omega), pk_un (by omega), fl_out (by omega)]
  · rw [v28]
    unfold rv
    by_cases c0 : c = 0
    · rw [if_pos c0, c0]; exact pk_us
    · rw [if_neg c0, pk_un (by omega)]
      by_cases c5 : c = 5
      · rw [if_pos c5, c5, pk_un (by omega), pk_us]
      · rw [if_neg c5]
        by_cases c6 : c = 6
        · rw [if_pos c6, c6, pk_us]
        · rw [if_neg c6, pk_un (by omega), pk_un (by omega), fl_in ⟨by omega, by omega⟩, if_neg (fun z => z.1 rfl)]
theorem aL_eq {a i d : Nat} (ha : a < 12) (hi : i < 16) (hd : d < 4) (h29 : M.1 29 a = nI i) : ∃ M', f_X7_addLetter M (nI a) (nI d) = some M' ∧ (∀ c, c ≠ 28 → c ≠ 29 → M'.1 c = M.1 c) ∧ M'.2 = M.2 ∧ M'.1 29 a = nI (i + 1) ∧ (∀ a', a' ≠ a → M'.1 29 a' = M.1 29 a') ∧ (∀ j, ¬ ((a * 16 + i) * 7 ≤ j ∧ j < (a * 16 + i) * 7 + 7) → M'.1 28 j = M.1 28 j) ∧ (∀ c, c < 7 → M'.1 28 ((a * 16 + i) * 7 + c) = rv 0 (nI d) c) := by
  unfold f_X7_addLetter f_X7_addRow f_X7_at
  rw [ck_nI (by omega) (by omega), nI_clamp (by omega), h29, bq_s, i_n16, i_n7, pk_mul, nI_add, pk_mul, nI_add, cf_nI (by omega) (by omega) (by omega), i_n5, nI_add, ck_nI (by omega) (by omega), i_n6, nI_add, ck_nI (by omega) (by omega), ck_nI (by omega) (by omega), ck_nI (by omega) (by omega), nI_clamp (by omega), nI_clamp (by omega), nI_clamp (by omega), nI_clamp (by omega), bd_s, i_n1, nI_add, nI_add, nI_add, ck_nI (by omega) (by omega), ck_nI (by omega) (by omega), nI_clamp (by omega), nI_clamp (by omega)]
  generalize ht : (a * 16 + i) * 7 = t
  have e29 : (sI (sI (fI M 28 t (t + 7) 0) 28 (t + 5) (nI 1)) 28 (t + 6) (-9)).1 29 a = nI i := by rw [sI_n (by decide), sI_n (by decide), fI_n (by decide)]; exact h29
  rw [e29, nI_add]
  have v28 : (sI (sI (sI (sI (sI (fI M 28 t (t + 7) 0) 28 (t + 5) (nI 1)) 28 (t + 6) (-9)) 29 a (nI (i + 1))) 28 (t + 1 + d) (nI 1)) 28 (t + 6) (nI d)).1 28 = upd (upd (upd (upd (fl_ (M.1 28) t (t + 7) 0) (t + 5) 1) (t + 6) (-9)) (t + 1 + d) 1) (t + 6) (nI d) := by
    rw [sI_e, sI_e, sI_n (by decide), sI_e, sI_e, fI_e]
    rfl
  refine ⟨_, rfl, fun c a b => ?_, rfl, ?_, fun a' ha' => ?_, fun j hj => ?_, fun c hc => ?_⟩
  · rw [sI_n a, sI_n a, sI_n b, sI_n a, sI_n a, fI_n a]
  · rw [sI_n (by decide), sI_n (by decide), sI_e, pk_us]
  · rw [sI_n (by decide), sI_n (by decide), sI_e, pk_un ha', sI_n (by decide), sI_n (by decide), fI_n (by decide)]
  · rw [v28, pk_un (by omega), pk_un (by omega), pk_un (by omega), pk_un (by omega), fl_out (by omega)]
  · rw [v28]
    unfold rv
    rw [cN_n' (by omega)]
    by_cases c0 : c = 0
    · rw [if_pos c0, c0, pk_un (by omega), pk_un (by omega), pk_un (by omega), pk_un (by omega), fl_in ⟨by omega, by omega⟩]
    · rw [if_neg c0]
      by_cases c5 : c = 5
      · rw [if_pos c5, c5, pk_un (by omega), pk_un (by omega), pk_un (by omega), pk_us]
      · rw [if_neg c5]
        by_cases c6 : c = 6
        · rw [if_pos c6, c6, pk_us]
        · rw [if_neg c6, pk_un (by omega)]
          by_cases cd : c = 1 + d
          · rw [if_pos ⟨nN9 (by omega), cd⟩, cd, ← Nat.add_assoc, pk_us]
          · rw [if_neg (fun z => cd z.2), pk_un (by omega), pk_un (by omega), pk_un (by omega), fl_in ⟨by omega, by omega⟩]
theorem sr10 {x l : Int32} {t : Nat} (ht : t + 7 ≤ 4480) (hl : l = -9 ∨ ∃ d, d < 4 ∧ l = nI d) : ∀ m c f M, c + m = 5 → m < f → (∀ c', c' < c → M.1 31 (t + c') = 0) → ∃ M', f_X12_setRow_10 f x l (nI t) (nI c) M = some M' ∧ (∀ c, c ≠ 31 → M'.1 c = M.1 c) ∧ M'.2 = M.2 ∧ (∀ j, ¬ (t ≤ j ∧ j < t + 7) → M'.1 31 j = M.1 31 j) ∧ (∀ c, c < 7 → M'.1 31 (t + c) = rv x l c) := by
  intro m
  induction m with
  | zero =>
    intro c f M hc hf h0
    obtain ⟨f, rfl⟩ : ∃ g, f = g + 1 := ⟨f - 1, by omega⟩
    have : c = 5 := by omega
    subst this
    have key : ∀ (s : Nat) (b : Bool), (l = -9 ∧ s = t + 1 ∧ b = false) ∨ (∃ d, d < 4 ∧ l = nI d ∧ s = t + 1 + d ∧ b = true) → ∃ M', f_X12_setRow_75 x l (nI t) (nI s) b (sI M 31 t x) = some M' ∧ (∀ c, c ≠ 31 → M'.1 c = M.1 c) ∧ M'.2 = M.2 ∧ (∀ j, ¬ (t ≤ j ∧ j < t + 7) → M'.1 31 j = M.1 31 j) ∧ (∀ c, c < 7 → M'.1 31 (t + c) = rv x l c) := by
      intro s b hsb
      have hs : t + 1 ≤ s ∧ s ≤ t + 4 := by
        rcases hsb with ⟨_, z, _⟩ | ⟨d, z1, _, z2, _⟩ <;> omega
      unfold f_X12_setRow_75
      rw [ck_nI (by omega) (by omega), ck_nI (by omega) (by omega), i_n5, nI_add, ck_nI (by omega) (by omega), i_n6, nI_add, ck_nI (by omega) (by omega), nI_clamp (by omega), nI_clamp (by omega), nI_clamp (by omega), nI_clamp (by omega)]
      have v31 : (sI (sI (sI (sI (sI M 31 t x) 31 s (bI b)) 31 t x) 31 (t + 5) 1) 31 (t + 6) l).1 31 = upd (upd (upd (upd (upd (M.1 31) t x) s (bI b)) t x) (t + 5) 1) (t + 6) l := by
        rw [sI_e, sI_e, sI_e, sI_e, sI_e]
      refine ⟨_, rfl, fun c a => by rw [sI_n a, sI_n a, sI_n a, sI_n a, sI_n a], rfl, fun j hj => ?_, fun c hc => ?_⟩
      · rw [v31, pk_un (by omega), pk_un (by omega), pk_un (by omega), pk_un (by omega), pk_un (by omega)]
      · rw [v31]
        unfold rv
        by_cases c6 : c = 6
        · rw [c6, pk_us]; rfl
        · rw [pk_un (by omega)]
          by_cases c5 : c = 5
          · rw [c5, pk_us]; rfl
          · rw [pk_un (by omega)]
            by_cases c0 : c = 0
            · rw [if_pos c0, c0, Nat.add_zero, pk_us]
            · rw [if_neg c0, if_neg c5, if_neg c6, pk_un (by omega)]
              rcases hsb with ⟨z1, z2, z3⟩ | ⟨d, z0, z1, z2, z3⟩
              · rw [if_neg (fun y => y.1 z1), z3]
                by_cases y : t + c = s
                · rw [y, pk_us]; rfl
                · rw [pk_un y, pk_un (by omega)]; exact h0 c (by omega)
              · rw [z1, z3]
                by_cases y : c = 1 + d
                · rw [if_pos ⟨nN9 (by omega), by rw [cN_n' (by omega)]; exact y⟩, show t + c = s by omega, pk_us]; rfl
                · rw [if_neg (fun w => y (by rw [cN_n' (by omega)] at w; exact w.2)), pk_un (by omega), pk_un (by omega)]; exact h0 c (by omega)
    rw [f_X12_setRow_10, if_pos (by decide), ck_nI (by omega) (by omega), nI_clamp (by omega)]
    unfold f_X12_setRow_62
    rcases hl with z | ⟨d, hd, z⟩
    · rw [if_pos z, if_pos z, i_n1, i_n0, nI_add, nI_add]
      exact key (t + 1 + 0) false (.inl ⟨z, rfl, rfl⟩)
    · have n9 : ¬ l = -9 := by rw [z]; exact nN9 (by omega)
      rw [if_neg n9, if_neg n9]
      have e : nI t + 1 + l = nI (t + 1 + d) := by rw [z, nI_1, nI_add]
      rw [e]
      exact key (t + 1 + d) true (.inr ⟨d, hd, z, rfl, rfl⟩)
  | succ m ih =>
    intro c f M hc hf h0
    obtain ⟨f, rfl⟩ : ∃ g, f = g + 1 := ⟨f - 1, by omega⟩
    rw [f_X12_setRow_10, if_neg (show ¬ (5 : Int32) ≤ nI c from nI_ge (b := 5) (by omega) (by omega)), nI_add, ck_nI (by omega) (by omega), nI_clamp (by omega), nI_1]
    obtain ⟨M', e1, e2, e3, e4, e5⟩ := ih (c + 1) f (sI M 31 (t + c) 0) (by omega) (by omega) (fun c' hc' => by
      rw [sI_e]
      by_cases z : c' = c
      · rw [z, pk_us]
      · rw [pk_un (by omega)]; exact h0 c' (by omega))
    refine ⟨M', e1, fun c a => by rw [e2 c a, sI_n a], e3, fun j hj => ?_, e5⟩
    rw [e4 j hj, sI_e, pk_un (by omega)]
theorem sr_eq {k i : Nat} (hk : k < 40) (hi : i < 16) {x l : Int32} (hl : l = -9 ∨ ∃ d, d < 4 ∧ l = nI d) : ∃ M', f_X12_setRow M (nI k) (nI i) x l = some M' ∧ (∀ c, c ≠ 31 → M'.1 c = M.1 c) ∧ M'.2 = M.2 ∧ (∀ j, ¬ (7 * (16 * k + i) ≤ j ∧ j < 7 * (16 * k + i) + 7) → M'.1 31 j = M.1 31 j) ∧ (∀ c, c < 7 → M'.1 31 (7 * (16 * k + i) + c) = rv x l c) := by
  unfold f_X12_setRow f_X12_rowAt
  rw [bq_s, i_n16, i_n7, pk_mul, nI_add, pk_mul, i_n0]
  exact sr10 (by omega) hl 5 0 100000 M rfl (by omega) (fun c' hc' => absurd hc' (Nat.not_lt_zero _))
/-- the rows of an act at first, by its places -/
def rw0 (pl : Nat → Int32) (i c : Nat) : Int32 := if i % 2 = 0 then rv (pl (i / 2)) (-9) c else rv 0 (nI (i / 2)) c
/-- the class: the rows of one act -/
theorem bg_c {C0 : Mem} {a k l : Nat} {pl : Nat → Int32} {k7 : Int32 → Mem → Option Mem} (ha : a < 12) (hl : l ≤ 4) (hpl : ∀ M d, M.1 15 = C0.1 15 → M.1 16 = C0.1 16 → d ≤ l → f_X2_placeOf M (nI a) (nI d) = some (pl d)) :
    ∀ m d f M, d + m = l → m < f → M.1 15 = C0.1 15 → M.1 16 = C0.1 16 → M.1 29 a = nI (2 * d) → (∀ i, i < 2 * d → ∀ c, c < 7 → M.1 28 ((a * 16 + i) * 7 + c) = rw0 pl i c) →
      ∃ M', f_X3_begin_48 k7 f (nI a) (nI l) (nI d) M = k7 (nI (a + 1)) M' ∧ (∀ c, c ≠ 28 → c ≠ 29 → M'.1 c = M.1 c) ∧ M'.2 = M.2 ∧ M'.1 29 a = nI (2 * l + 1) ∧ (∀ a', a' ≠ a → M'.1 29 a' = M.1 29 a') ∧ (∀ j, ¬ (a * 112 ≤ j ∧ j < a * 112 + 112) → M'.1 28 j = M.1 28 j) ∧ (∀ i, i < 2 * l + 1 → ∀ c, c < 7 → M'.1 28 ((a * 16 + i) * 7 + c) = rw0 pl i c) := by
  intro m
  induction m with
  | zero =>
    intro d f M hd hf h15 h16 h29 hr
    obtain ⟨f, rfl⟩ : ∃ g, f = g + 1 := ⟨f - 1, by omega⟩
    have : d = l := by omega
    subst this
    obtain ⟨M', e1, e2, e3, e4, e5, e6, e7⟩ := aP_eq (M := M) (a := a) (i := 2 * d) ha (by omega) h29 (pl d)
    rw [f_X3_begin_48, if_pos (nI_le (Nat.le_refl _) (by omega)), hpl M d h15 h16 (by omega), bq_s, e1, bm_s, nI_1]
    refine ⟨M', rfl, e2, e3, e4, e5, fun j hj => e6 j (by omega), fun i hi c hc => ?_⟩
    by_cases z : i = 2 * d
    · subst z
      rw [e7 c hc]
      unfold rw0
      rw [if_pos (by omega), show 2 * d / 2 = d by omega]
    · rw [e6 _ (by omega)]; exact hr i (by omega) c hc
  | succ m ih =>
    intro d f M hd hf h15 h16 h29 hr
    obtain ⟨f, rfl⟩ : ∃ g, f = g + 1 := ⟨f - 1, by omega⟩
    obtain ⟨M1, e1, e2, e3, e4, e5, e6, e7⟩ := aP_eq (M := M) (a := a) (i := 2 * d) ha (by omega) h29 (pl d)
    obtain ⟨M2, g1, g2, g3, g4, g5, g6, g7⟩ := aL_eq (M := M1) (a := a) (i := 2 * d + 1) (d := d) ha (by omega) (by omega) e4
    rw [f_X3_begin_48, if_neg (nI_ge (by omega) (by omega)), hpl M d h15 h16 (by omega), bq_s, e1, bm_s, g1, bm_s, nI_1]
    obtain ⟨M', i1, i2, i3, i4, i5, i6, i7⟩ := ih (d + 1) f M2 (by omega) (by omega) (by rw [g2 15 (by decide) (by decide), e2 15 (by decide) (by decide)]; exact h15) (by rw [g2 16 (by decide) (by decide), e2 16 (by decide) (by decide)]; exact h16) (by rw [g4]; exact ix (f := nI) (by omega)) (fun i hi c hc => by
      by_cases z : i = 2 * d + 1
      · subst z
        rw [g7 c hc]
        unfold rw0
        rw [if_neg (by omega), show (2 * d + 1) / 2 = d by omega]
      · rw [g6 _ (by omega)]
        by_cases y : i = 2 * d
        · subst y
          rw [e7 c hc]
          unfold rw0
          rw [if_pos (by omega), show 2 * d / 2 = d by omega]
        · rw [e6 _ (by omega)]; exact hr i (by omega) c hc)
    refine ⟨M', i1, fun c a b => by rw [i2 c a b, g2 c a b, e2 c a b], by rw [i3, g3, e3], i4, fun a' ha' => by rw [i5 a' ha', g5 a' ha', e5 a' ha'], fun j hj => by rw [i6 j hj, g6 j (by omega), e6 j (by omega)], i7⟩
/-- the reference: the rows of one act -/
theorem bg_m {N0 : Mem} {k l : Nat} {pl : Nat → Int32} {k7 : Int32 → Mem → Option Mem} (hk : k < 40) (hl : l ≤ 4) (hpl : ∀ N d, (∀ c, c ≠ 30 → c ≠ 31 → N.1 c = N0.1 c) → d ≤ l → f_X12_placeOf N (nI k) (nI d) = some (pl d)) :
    ∀ m d f N, d + m = l + 1 → m < f → (∀ c, c ≠ 30 → c ≠ 31 → N.1 c = N0.1 c) → (∀ i, i < 2 * d → i < 2 * l + 1 → ∀ c, c < 7 → N.1 31 (7 * (16 * k + i) + c) = rw0 pl i c) →
      ∃ N', f_X12_firstOrders_45 k7 f (nI k) (nI l) (nI d) N = k7 (nI (k + 1)) N' ∧ (∀ c, c ≠ 31 → N'.1 c = N.1 c) ∧ N'.2 = N.2 ∧ (∀ j, ¬ (k * 112 ≤ j ∧ j < k * 112 + 112) → N'.1 31 j = N.1 31 j) ∧ (∀ i, i < 2 * l + 1 → ∀ c, c < 7 → N'.1 31 (7 * (16 * k + i) + c) = rw0 pl i c) := by
  intro m
  induction m with
  | zero =>
    intro d f N hd hf hN hr
    obtain ⟨f, rfl⟩ : ∃ g, f = g + 1 := ⟨f - 1, by omega⟩
    rw [f_X12_firstOrders_45, if_pos (nI_lt (by omega) (by omega)), nI_1]
    exact ⟨N, rfl, fun _ _ => rfl, rfl, fun _ _ => rfl, fun i hi c hc => hr i (by omega) hi c hc⟩
  | succ m ih =>
    intro d f N hd hf hN hr
    obtain ⟨f, rfl⟩ : ∃ g, f = g + 1 := ⟨f - 1, by omega⟩
    obtain ⟨N1, e1, e2, e3, e4, e5⟩ := sr_eq (M := N) (k := k) (i := 2 * d) hk (by omega) (x := pl d) (l := -9) (.inl rfl)
    rw [f_X12_firstOrders_45, if_neg (nI_nlt (by omega) (by omega)), hpl N d hN (by omega), bq_s, i_n2, pk_mul, e1, bm_s]
    have r1 : ∀ i, i < 2 * d + 1 → i < 2 * l + 1 → ∀ c, c < 7 → N1.1 31 (7 * (16 * k + i) + c) = rw0 pl i c := fun i hi hi2 c hc => by
      by_cases y : i = 2 * d
      · subst y
        rw [e5 c hc]
        unfold rw0
        rw [if_pos (by omega), show 2 * d / 2 = d by omega]
      · rw [e4 _ (by omega)]; exact hr i (by omega) hi2 c hc
    by_cases q : l ≤ d
    · rw [if_pos (nI_le q (by omega)), nI_1]
      obtain ⟨N', i1, i2, i3, i4, i5⟩ := ih (d + 1) f N1 (by omega) (by omega) (fun c a b => by rw [e2 c b]; exact hN c a b) (fun i hi hi2 c hc => r1 i (by omega) hi2 c hc)
      exact ⟨N', i1, fun c a => by rw [i2 c a, e2 c a], by rw [i3, e3], fun j hj => by rw [i4 j hj, e4 j (by omega)], i5⟩
    · obtain ⟨N2, g1, g2, g3, g4, g5⟩ := sr_eq (M := N1) (k := k) (i := 2 * d + 1) hk (by omega) (x := 0) (l := nI d) (.inr ⟨d, by omega, rfl⟩)
      rw [if_neg (nI_ge (by omega) (by omega)), nI_1, nI_1, g1, bm_s]
      obtain ⟨N', i1, i2, i3, i4, i5⟩ := ih (d + 1) f N2 (by omega) (by omega) (fun c a b => by rw [g2 c b, e2 c b]; exact hN c a b) (fun i hi hi2 c hc => by
        by_cases y : i = 2 * d + 1
        · subst y
          rw [g5 c hc]
          unfold rw0
          rw [if_neg (by omega), show (2 * d + 1) / 2 = d by omega]
        · rw [g4 _ (by omega)]; exact r1 i (by omega) hi2 c hc)
      exact ⟨N', i1, fun c a => by rw [i2 c a, g2 c a, e2 c a], by rw [i3, g3, e3], fun j hj => by rw [i4 j hj, g4 j (by omega), e4 j (by omega)], i5⟩
theorem rw0_ok {pl : Nat → Int32} {l : Nat} (hl : l ≤ 4) (hb : ∀ d, d ≤ l → ∃ p, p < 40 ∧ pl d = nI p) : RW (2 * l + 1) l (rw0 pl) := by
  have e0 : ∀ i, i % 2 = 0 → ∀ c, rw0 pl i c = rv (pl (i / 2)) (-9) c := fun i h c => by unfold rw0; rw [if_pos h]
  have e1 : ∀ i, ¬ i % 2 = 0 → ∀ c, rw0 pl i c = rv 0 (nI (i / 2)) c := fun i h c => by unfold rw0; rw [if_neg h]
  have c1 : (1 : Int32).toInt = 1 := by decide
  have c0 : (0 : Int32).toInt = 0 := by decide
  refine ⟨by omega, by omega, by rw [e0 0 (by omega)]; rfl, fun d hd => ⟨2 * d + 1, by omega, by rw [e1 _ (by omega), show (2 * d + 1) / 2 = d by omega]; rfl⟩, fun i hi => ⟨1, by omega, by omega, ?_⟩, fun i hi c hc => ?_, fun i hi => ?_⟩
  · by_cases z : i % 2 = 0
    · rw [e0 i z]; rfl
    · rw [e1 i z]; rfl
  · by_cases z : i % 2 = 0
    · rw [e0 i z]
      unfold rv
      obtain ⟨p, hp, ep⟩ := hb (i / 2) (by omega)
      by_cases q0 : c = 0
      · rw [if_pos q0, ep, nI_toInt (by omega)]; omega
      · rw [if_neg q0, if_neg (by omega), if_neg (by omega), if_neg (fun y => y.1 rfl)]; omega
    · rw [e1 i z]
      unfold rv
      by_cases q0 : c = 0
      · rw [if_pos q0]; omega
      · rw [if_neg q0, if_neg (by omega), if_neg (by omega)]
        by_cases y : nI (i / 2) ≠ -9 ∧ c = 1 + cN_ (nI (i / 2))
        · rw [if_pos y]; omega
        · rw [if_neg y]; omega
  · by_cases z : i % 2 = 0
    · exact .inl (by rw [e0 i z]; rfl)
    · exact .inr ⟨i / 2, by omega, by rw [e1 i z]; rfl⟩
end
