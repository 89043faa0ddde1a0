/-! the pure half: the class arranges -/
/-- a stretch that holds its own places in order -/
def Seg (ah : Nat → Nat → Prop) (s : Nat → Nat) (lo hi : Nat) : Prop :=
  (∀ i, lo ≤ i → i < hi → lo ≤ s i ∧ s i < hi) ∧ (∀ v, lo ≤ v → v < hi → ∃ i, lo ≤ i ∧ i < hi ∧ s i = v) ∧ (∀ i j, lo ≤ i → i < j → j < hi → ah (s i) (s j))
theorem Seg_cg {ah : Nat → Nat → Prop} {s t : Nat → Nat} {lo hi : Nat} (h : Seg ah s lo hi) (e : ∀ i, lo ≤ i → i < hi → t i = s i) : Seg ah t lo hi := by
  refine ⟨fun i a b => by rw [e i a b]; exact h.1 i a b, fun v a b => ?_, fun i j a b c => by rw [e i a (by omega), e j (by omega) c]; exact h.2.2 i j a b c⟩
  obtain ⟨i, x, y, z⟩ := h.2.1 v a b
  exact ⟨i, x, y, by rw [e i x y]; exact z⟩
def On2 (M M' : Mem) : Prop := (∀ c, c ≠ 57 → c ≠ 58 → M'.1 c = M.1 c) ∧ M'.2 = M.2
theorem On2_r (M : Mem) : On2 M M := ⟨fun _ _ _ => rfl, rfl⟩
theorem On2_t {M M1 M2 : Mem} (h : On2 M M1) (g : On2 M1 M2) : On2 M M2 := ⟨fun c x y => (g.1 c x y).trans (h.1 c x y), g.2.trans h.2⟩
theorem On2_s {M M' : Mem} {k : Nat} {x : Int32} (h : On2 M M') : On2 M (sI M' 57 k x) := ⟨fun c a b => by rw [sI_n a]; exact h.1 c a b, h.2⟩
theorem On2_y {M M' : Mem} {a b n : Nat} (h : On2 M M') : On2 M (yI M' 57 a 58 b n) := ⟨fun c x y => by rw [yI_n y]; exact h.1 c x y, h.2⟩
section
variable {M0 : Mem} {ah : Nat → Nat → Prop} {n : Nat}
/-- how the class asks -/
def Ask (M0 : Mem) (ah : Nat → Nat → Prop) (n : Nat) : Prop := ∀ M, On2 M0 M → ∀ v w, v < w → w < n → ∃ b, f_X10_isBehind M (nI v) (nI w) = some b ∧ (b = true → ah w v) ∧ (b = false → ah v w)
theorem mg47 {s : Nat → Nat} {lo mid hi : Nat} (hl : Lin ah) (hn : n ≤ 400) (hA : Ask M0 ah n) (q1 : lo < mid) (q2 : mid < hi) (q3 : hi ≤ n) (hs1 : Seg ah s lo mid) (hs2 : Seg ah s mid hi) :
    ∀ r p q o f M (t : Nat → Nat), o + r = hi → r < f → lo ≤ p → p ≤ mid → mid ≤ q → q ≤ hi → o + mid = p + q → On2 M0 M → (∀ i, lo ≤ i → i < hi → M.1 58 i = nI (s i)) → (∀ i, i < n → i < o ∨ hi ≤ i → M.1 57 i = nI (t i)) →
      (∀ i, lo ≤ i → i < o → ∃ j, t i = s j ∧ ((lo ≤ j ∧ j < p) ∨ (mid ≤ j ∧ j < q))) → (∀ j, (lo ≤ j ∧ j < p) ∨ (mid ≤ j ∧ j < q) → ∃ i, lo ≤ i ∧ i < o ∧ t i = s j) → (∀ i j, lo ≤ i → i < j → j < o → ah (t i) (t j)) →
      (∀ i j, lo ≤ i → i < o → (p ≤ j ∧ j < mid) ∨ (q ≤ j ∧ j < hi) → ah (t i) (s j)) →
      ∃ (t' : Nat → Nat) (M' : Mem), f_X10_merge_47 f (nI mid) (nI hi) (nI p) (nI q) (nI o) M = some M' ∧ On2 M0 M' ∧ (∀ i, i < n → M'.1 57 i = nI (t' i)) ∧ (∀ i, i < lo ∨ hi ≤ i → t' i = t i) ∧ Seg ah t' lo hi := by
  intro r
  induction r with
  | zero =>
    intro p q o f M t ho hf p1 p2 p3 p4 p5 hO h58 h57 a1 a2 a3 a4
    obtain ⟨f, rfl⟩ : ∃ z, f = z + 1 := ⟨f - 1, by omega⟩
    rw [f_X10_merge_47, if_pos (nI_le (by omega) (by omega))]
    refine ⟨t, M, rfl, hO, fun i hi' => h57 i hi' (by omega), fun _ _ => rfl, fun i x y => ?_, fun v x y => ?_, fun i j x y z => a3 i j x y (by omega)⟩
    · obtain ⟨j, e, z⟩ := a1 i x (by omega)
      rw [e]
      rcases z with z | z
      · have := hs1.1 j z.1 (by omega); omega
      · have := hs2.1 j z.1 (by omega); omega
    · by_cases z : v < mid
      · obtain ⟨j, j1, j2, j3⟩ := hs1.2.1 v x z
        obtain ⟨i, i1, i2, i3⟩ := a2 j (.inl ⟨j1, by omega⟩)
        exact ⟨i, i1, by omega, i3.trans j3⟩
      · obtain ⟨j, j1, j2, j3⟩ := hs2.2.1 v (by omega) y
        obtain ⟨i, i1, i2, i3⟩ := a2 j (.inr ⟨j1, by omega⟩)
        exact ⟨i, i1, by omega, i3.trans j3⟩
  | succ r ih =>
    intro p q o f M t ho hf p1 p2 p3 p4 p5 hO h58 h57 a1 a2 a3 a4
    obtain ⟨f, rfl⟩ : ∃ z, f = z + 1 := ⟨f - 1, by omega⟩
    rw [f_X10_merge_47, if_neg (nI_ge (by omega) (by omega))]
    have tl : ∀ x i, i ≠ o → va_up t o x i = t i := fun x i z => va_up_ne _ _ z
    have L : p < mid → (∀ j, q ≤ j → j < hi → ah (s p) (s j)) → ∃ (t' : Nat → Nat) (M' : Mem), f_X10_merge_86 (f_X10_merge_47 f) (nI mid) (nI hi) (nI p) (nI q) (nI o) M = some M' ∧ On2 M0 M' ∧ (∀ i, i < n → M'.1 57 i = nI (t' i)) ∧ (∀ i, i < lo ∨ hi ≤ i → t' i = t i) ∧ Seg ah t' lo hi := by
      intro hp hr
      unfold f_X10_merge_86
      rw [ck_nI (by omega) (by omega), ck_nI (by omega) (by omega), nI_clamp (by omega), nI_clamp (by omega), h58 p p1 (by omega), nI_1, nI_1]
      obtain ⟨t', M', g1, g2, g3, g4, g5⟩ := ih (p + 1) q (o + 1) f (sI M 57 o (nI (s p))) (va_up t o (s p)) (by omega) (by omega) (by omega) (by omega) p3 p4 (by omega) (On2_s hO) (fun i x y => by rw [sI_n (by decide)]; exact h58 i x y) (fun i x y => by
          by_cases z : i = o
          · rw [z, sI_e, pk_us, va_up_self]
          · rw [sI_e, pk_un z, tl _ i z]; exact h57 i x (by omega))
        (fun i x y => by
          by_cases z : i = o
          · exact ⟨p, by rw [z, va_up_self], .inl ⟨p1, by omega⟩⟩
          · obtain ⟨j, e, y'⟩ := a1 i x (by omega)
            exact ⟨j, by rw [tl _ i z, e], by omega⟩)
        (fun j x => by
          by_cases z : j = p
          · exact ⟨o, by omega, by omega, by rw [z, va_up_self]⟩
          · obtain ⟨i, i1, i2, i3⟩ := a2 j (by omega)
            exact ⟨i, i1, by omega, by rw [tl _ i (by omega), i3]⟩)
        (fun i j x y z => by
          rw [tl _ i (by omega)]
          by_cases w : j = o
          · rw [w, va_up_self]; exact a4 i p x (by omega) (.inl ⟨by omega, hp⟩)
          · rw [tl _ j w]; exact a3 i j x y (by omega))
        (fun i j x y z => by
          by_cases w : i = o
          · rw [w, va_up_self]
            rcases z with z | z
            · exact hs1.2.2 p j p1 (by omega) z.2
            · exact hr j z.1 z.2
          · rw [tl _ i w]; exact a4 i j x (by omega) (by omega))
      exact ⟨t', M', g1, g2, g3, fun i z => by rw [g4 i z, tl _ i (by omega)], g5⟩
    have R : q < hi → (∀ j, p ≤ j → j < mid → ah (s q) (s j)) → ∃ (t' : Nat → Nat) (M' : Mem), f_X10_merge_106 (f_X10_merge_47 f) (nI mid) (nI hi) (nI p) (nI q) (nI o) M = some M' ∧ On2 M0 M' ∧ (∀ i, i < n → M'.1 57 i = nI (t' i)) ∧ (∀ i, i < lo ∨ hi ≤ i → t' i = t i) ∧ Seg ah t' lo hi := by
      intro hp hr
      unfold f_X10_merge_106
      rw [ck_nI (by omega) (by omega), ck_nI (by omega) (by omega), nI_clamp (by omega), nI_clamp (by omega), h58 q (by omega) (by omega), nI_1, nI_1]
      obtain ⟨t', M', g1, g2, g3, g4, g5⟩ := ih p (q + 1) (o + 1) f (sI M 57 o (nI (s q))) (va_up t o (s q)) (by omega) (by omega) (by omega) (by omega) (by omega) (by omega) (by omega) (On2_s hO) (fun i x y => by rw [sI_n (by decide)]; exact h58 i x y) (fun i x y => by
          by_cases z : i = o
          · rw [z, sI_e, pk_us, va_up_self]
          · rw [sI_e, pk_un z, tl _ i z]; exact h57 i x (by omega))
        (fun i x y => by
          by_cases z : i = o
          · exact ⟨q, by rw [z, va_up_self], .inr ⟨p3, by omega⟩⟩
          · obtain ⟨j, e, y'⟩ := a1 i x (by omega)
            exact ⟨j, by rw [tl _ i z, e], by omega⟩)
        (fun j x => by
          by_cases z : j = q
          · exact ⟨o, by omega, by omega, by rw [z, va_up_self]⟩
          · obtain ⟨i, i1, i2, i3⟩ := a2 j (by omega)
            exact ⟨i, i1, by omega, by rw [tl _ i (by omega), i3]⟩)
        (fun i j x y z => by
          rw [tl _ i (by omega)]
          by_cases w : j = o
          · rw [w, va_up_self]; exact a4 i q x (by omega) (.inr ⟨by omega, hp⟩)
          · rw [tl _ j w]; exact a3 i j x y (by omega))
        (fun i j x y z => by
          by_cases w : i = o
          · rw [w, va_up_self]
            rcases z with z | z
            · exact hr j z.1 z.2
            · exact hs2.2.2 q j p3 (by omega) z.2
          · rw [tl _ i w]; exact a4 i j x (by omega) (by omega))
      exact ⟨t', M', g1, g2, g3, fun i z => by rw [g4 i z, tl _ i (by omega)], g5⟩
    by_cases z1 : hi ≤ q
    · rw [if_pos (nI_le z1 (by omega))]
      exact L (by omega) (fun j x y => by omega)
    · rw [if_neg (nI_ge (by omega) (by omega))]
      by_cases z2 : mid ≤ p
      · rw [if_pos (nI_le z2 (by omega))]
        exact R (by omega) (fun j x y => by omega)
      · rw [if_neg (nI_ge (by omega) (by omega)), ck_nI (by omega) (by omega), ck_nI (by omega) (by omega), nI_clamp (by omega), nI_clamp (by omega), h58 p p1 (by omega), h58 q (by omega) (by omega)]
        have l1 := hs1.1 p p1 (by omega)
        have l2 := hs2.1 q p3 (by omega)
        obtain ⟨b, b1, b2, b3⟩ := hA M hO (s p) (s q) (by omega) (by omega)
        rw [b1, bq_s]
        cases b with
        | true =>
          rw [bT]
          refine R (by omega) (fun j x y => ?_)
          by_cases w : j = p
          · rw [w]; exact b2 rfl
          · exact hl.2.1 _ _ _ (b2 rfl) (hs1.2.2 p j p1 (by omega) y)
        | false =>
          rw [bF]
          refine L (by omega) (fun j x y => ?_)
          by_cases w : j = q
          · rw [w]; exact b3 rfl
          · exact hl.2.1 _ _ _ (b3 rfl) (hs2.2.2 q j p3 (by omega) y)
theorem mg_ok {s : Nat → Nat} {lo mid hi : Nat} {M : Mem} (hl : Lin ah) (hn : n ≤ 400) (hA : Ask M0 ah n) (q1 : lo < mid) (q2 : mid < hi) (q3 : hi ≤ n) (hs1 : Seg ah s lo mid) (hs2 : Seg ah s mid hi) (hO : On2 M0 M) (h57 : ∀ i, i < n → M.1 57 i = nI (s i)) :
    ∃ (t' : Nat → Nat) (M' : Mem), f_X10_merge M (nI lo) (nI mid) (nI hi) = some M' ∧ On2 M0 M' ∧ (∀ i, i < n → M'.1 57 i = nI (t' i)) ∧ (∀ i, i < lo ∨ hi ≤ i → t' i = s i) ∧ Seg ah t' lo hi := by
  obtain ⟨m, rfl⟩ : ∃ m, mid = m + 1 := ⟨mid - 1, by omega⟩
  have l1 := hs1.1 m (by omega) (by omega)
  have l2 := hs2.1 (m + 1) (by omega) (by omega)
  obtain ⟨b, b1, b2, b3⟩ := hA M hO (s m) (s (m + 1)) (by omega) (by omega)
  unfold f_X10_merge
  rw [nI_pred, ck_nI (by omega) (by omega), ck_nI (by omega) (by omega), nI_clamp (by omega), nI_clamp (by omega), h57 m (by omega), h57 (m + 1) (by omega), b1, bq_s]
  cases b with
  | true =>
    rw [bT, pk_sub (by omega), ca_nI (by omega) (by omega) (by omega) (by omega), nI_clamp (by omega), nI_clamp (by omega)]
    exact mg47 hl hn hA q1 q2 q3 hs1 hs2 (hi - lo) lo (m + 1) lo 100000 (yI M 57 lo 58 lo (hi - lo)) s (by omega) (by omega) (by omega) (by omega) (by omega) (by omega) (by omega) (On2_y hO) (fun i x y => by
      rw [yI_e, pk_cpy_in (by omega) (by omega), show lo + (i - lo) = i by omega]; exact h57 i (by omega)) (fun i x y => by rw [yI_n (by decide)]; exact h57 i x) (fun i x y => by omega) (fun j x => by omega) (fun i j x y z => by omega) (fun i j x y => by omega)
  | false =>
    rw [bF]
    refine ⟨s, M, rfl, hO, h57, fun _ _ => rfl, fun i x y => ?_, fun v x y => ?_, fun i j x y z => ?_⟩
    · by_cases z : i < m + 1
      · have := hs1.1 i x z; omega
      · have := hs2.1 i (by omega) y; omega
    · by_cases z : v < m + 1
      · obtain ⟨i, i1, i2, i3⟩ := hs1.2.1 v x z
        exact ⟨i, i1, by omega, i3⟩
      · obtain ⟨i, i1, i2, i3⟩ := hs2.2.1 v (by omega) y
        exact ⟨i, by omega, i2, i3⟩
    · by_cases w : j < m + 1
      · exact hs1.2.2 i j x y w
      · by_cases u : i < m + 1
        · have A : ah (s i) (s (m + 1)) := by
            by_cases g : i = m
            · rw [g]; exact b3 rfl
            · exact hl.2.1 _ _ _ (hs1.2.2 i m x (by omega) (by omega)) (b3 rfl)
          by_cases g : j = m + 1
          · rw [g]; exact A
          · exact hl.2.1 _ _ _ A (hs2.2.2 (m + 1) j (by omega) (by omega) z)
        · exact hs2.2.2 i j (by omega) y z
/-- stretches of r places from b on -/
def Bks (ah : Nat → Nat → Prop) (n : Nat) (s : Nat → Nat) (r b : Nat) : Prop := ∀ k, b + k * r < n → Seg ah s (b + k * r) (min (b + k * r + r) n)
theorem ar54 {k41 : Int32 → Mem → Option Mem} {r : Nat} (hl : Lin ah) (hn : n ≤ 400) (h110 : M0.1 110 0 = nI n) (hA : Ask M0 ah n) (r1 : 1 ≤ r) (r2 : r < n) :
    ∀ z m f M (s : Nat → Nat), n ≤ m * (2 * r) + z → z < f → On2 M0 M → (∀ i, i < n → M.1 57 i = nI (s i)) → (∀ k, k < m → k * (2 * r) < n → Seg ah s (k * (2 * r)) (min (k * (2 * r) + 2 * r) n)) → Bks ah n s r (m * (2 * r)) → m * (2 * r) < n + 2 * r →
    ∃ (s' : Nat → Nat) (M' : Mem), f_X10_arrange_54 k41 f (nI r) (nI (m * (2 * r))) M = k41 (nI (r * 2)) M' ∧ On2 M0 M' ∧ (∀ i, i < n → M'.1 57 i = nI (s' i)) ∧ Bks ah n s' (r * 2) 0 := by
  intro z
  induction z with
  | zero =>
    intro m f M s hz hf hO h57 hb1 hb2 hb
    obtain ⟨f, rfl⟩ : ∃ z, f = z + 1 := ⟨f - 1, by omega⟩
    rw [f_X10_arrange_54, hO.1 110 (by decide) (by decide), h110, nI_add, if_pos (nI_le (by omega) (by omega)), i_n2, pk_mul]
    refine ⟨s, M, rfl, hO, h57, fun k hk => ?_⟩
    rw [Nat.zero_add, Nat.mul_comm r 2] at hk ⊢
    have km : k < m := by
      apply Classical.byContradiction
      intro q
      have := Nat.mul_le_mul_right (2 * r) (show m ≤ k by omega)
      omega
    exact hb1 k km hk
  | succ z ih =>
    intro m f M s hz hf hO h57 hb1 hb2 hb
    obtain ⟨f, rfl⟩ : ∃ z, f = z + 1 := ⟨f - 1, by omega⟩
    by_cases q : n ≤ m * (2 * r) + r
    · rw [f_X10_arrange_54, hO.1 110 (by decide) (by decide), h110, nI_add, if_pos (nI_le q (by omega)), i_n2, pk_mul]
      refine ⟨s, M, rfl, hO, h57, fun k hk => ?_⟩
      rw [Nat.zero_add, Nat.mul_comm r 2] at hk ⊢
      rcases Nat.lt_trichotomy k m with w | w | w
      · exact hb1 k w hk
      · subst w
        have := hb2 0 (by omega)
        rw [Nat.zero_mul, Nat.add_zero, show min (k * (2 * r) + r) n = n by omega] at this
        rw [show min (k * (2 * r) + 2 * r) n = n by omega]
        exact this
      · have := Nat.mul_le_mul_right (2 * r) (show m + 1 ≤ k by omega)
        rw [Nat.add_mul] at this
        omega
    · rw [f_X10_arrange_54, hO.1 110 (by decide) (by decide), h110, nI_add, if_neg (nI_ge (by omega) (by omega)), i_n2, pk_mul, nI_add]
      have g0 := hb2 0 (by omega)
      have g1 := hb2 1 (by omega)
      rw [Nat.zero_mul, Nat.add_zero, show min (m * (2 * r) + r) n = m * (2 * r) + r by omega] at g0
      rw [Nat.one_mul, show m * (2 * r) + r + r = m * (2 * r) + 2 * r by omega] at g1
      have hm : f_J9_min_7cf53 (nI (m * (2 * r) + 2 * r)) (nI n) = some (nI (min (m * (2 * r) + 2 * r) n)) := by
        unfold f_J9_min_7cf53
        by_cases y : n < m * (2 * r) + 2 * r
        · rw [if_pos (nI_lt y (by omega)), show min (m * (2 * r) + 2 * r) n = n by omega]
        · rw [if_neg (nI_nlt (by omega) (by omega)), show min (m * (2 * r) + 2 * r) n = m * (2 * r) + 2 * r by omega]
      obtain ⟨t, M', e1, e2, e3, e4, e5⟩ := mg_ok (lo := m * (2 * r)) (mid := m * (2 * r) + r) (hi := min (m * (2 * r) + 2 * r) n) hl hn hA (by omega) (by omega) (by omega) g0 g1 hO h57
      rw [hm, bq_s, e1, bm_s]
      have em : m * (2 * r) + 2 * r = (m + 1) * (2 * r) := by rw [Nat.add_mul, Nat.one_mul]
      rw [em]
      refine ih (m + 1) f M' t (by omega) (by omega) e2 e3 (fun k hk hkn => ?_) (fun k hk => ?_) (by omega)
      · by_cases y : k = m
        · rw [y]; exact e5
        · have le := Nat.mul_le_mul_right (2 * r) (show k + 1 ≤ m by omega)
          rw [Nat.add_mul, Nat.one_mul] at le
          exact Seg_cg (hb1 k (by omega) hkn) (fun i x1 x2 => e4 i (by omega))
      · have e : (m + 1) * (2 * r) + k * r = m * (2 * r) + (k + 2) * r := by rw [Nat.add_mul k 2 r]; omega
        rw [e] at hk ⊢
        exact Seg_cg (hb2 (k + 2) hk) (fun i x1 x2 => e4 i (by omega))
theorem ar41 (hl : Lin ah) (hn : n ≤ 400) (h110 : M0.1 110 0 = nI n) (hA : Ask M0 ah n) :
    ∀ z r f M (s : Nat → Nat), n ≤ r + z → z < f → 1 ≤ r → r ≤ 1000 → On2 M0 M → (∀ i, i < n → M.1 57 i = nI (s i)) → Bks ah n s r 0 →
    ∃ (s' : Nat → Nat) (M' : Mem), f_X10_arrange_41 f (nI r) M = f_X10_arrange_108 100000 0 M' ∧ On2 M0 M' ∧ (∀ i, i < n → M'.1 57 i = nI (s' i)) ∧ Seg ah s' 0 n := by
  intro z
  induction z with
  | zero =>
    intro r f M s hz hf r1 r2 hO h57 hb
    obtain ⟨f, rfl⟩ : ∃ z, f = z + 1 := ⟨f - 1, by omega⟩
    rw [f_X10_arrange_41, hO.1 110 (by decide) (by decide), h110, if_pos (nI_le (by omega) (by omega))]
    refine ⟨s, M, rfl, hO, h57, ?_⟩
    by_cases q : n = 0
    · subst q; exact ⟨fun i _ h => absurd h (by omega), fun i _ h => absurd h (by omega), fun i j _ _ h => absurd h (by omega)⟩
    · have := hb 0 (by omega)
      rw [Nat.zero_mul, Nat.zero_add, Nat.zero_add, show min r n = n by omega] at this
      exact this
  | succ z ih =>
    intro r f M s hz hf r1 r2 hO h57 hb
    obtain ⟨f, rfl⟩ : ∃ z, f = z + 1 := ⟨f - 1, by omega⟩
    by_cases y : n ≤ r
    · rw [f_X10_arrange_41, hO.1 110 (by decide) (by decide), h110, if_pos (nI_le (by omega) (by omega))]
      refine ⟨s, M, rfl, hO, h57, ?_⟩
      by_cases q : n = 0
      · subst q; exact ⟨fun i _ h => absurd h (by omega), fun i _ h => absurd h (by omega), fun i j _ _ h => absurd h (by omega)⟩
      · have := hb 0 (by omega)
        rw [Nat.zero_mul, Nat.zero_add, Nat.zero_add, show min r n = n by omega] at this
        exact this
    · rw [f_X10_arrange_41, hO.1 110 (by decide) (by decide), h110, if_neg (nI_ge (by omega) (by omega))]
      have h0 : (0 : Int32) = nI (0 * (2 * r)) := by rw [Nat.zero_mul]; rfl
      obtain ⟨t, M', e1, e2, e3, e4⟩ := ar54 (k41 := f_X10_arrange_41 f) (r := r) hl hn h110 hA r1 (by omega) n 0 100000 M s (by omega) (by omega) hO h57 (fun k hk => absurd hk (by omega)) (by rw [Nat.zero_mul]; exact hb) (by omega)
      rw [← h0] at e1
      rw [e1]
      exact ih (r * 2) f M' t (by omega) (by omega) (by omega) (by omega) e2 e3 e4
theorem ar108 {s : Nat → Nat} (hn : n ≤ 400) (h110 : M0.1 110 0 = nI n) (h57 : ∀ i, i < n → M0.1 57 i = nI (s i) ∧ s i < n) (hi : ∀ i j, i < n → j < n → s i = s j → i = j) :
    ∀ r v f M, v + r = n → r < f → On 59 M0 M → (∀ i, i < v → M.1 59 (s i) = nI i) → ∃ M', f_X10_arrange_108 f (nI v) M = some (sI M' 117 0 (bI true)) ∧ On 59 M0 M' ∧ ∀ i, i < n → M'.1 59 (s i) = nI i := by
  intro r
  induction r with
  | zero =>
    intro v f M hv hf hO h1
    obtain ⟨f, rfl⟩ : ∃ z, f = z + 1 := ⟨f - 1, by omega⟩
    have : v = n := by omega
    subst this
    rw [f_X10_arrange_108, hO.1 110 (by decide), h110, if_pos (nI_le (by omega) (by omega))]
    exact ⟨M, rfl, hO, h1⟩
  | succ r ih =>
    intro v f M hv hf hO h1
    obtain ⟨f, rfl⟩ : ∃ z, f = z + 1 := ⟨f - 1, by omega⟩
    have q := (h57 v (by omega)).2
    rw [f_X10_arrange_108, hO.1 110 (by decide), h110, if_neg (nI_ge (by omega) (by omega)), ck_nI (by omega) (by omega), nI_clamp (by omega), hO.1 57 (by decide), (h57 v (by omega)).1, ck_nI (by omega) (by omega), nI_clamp (by omega), nI_1]
    refine ih (v + 1) f _ (by omega) (by omega) (On_s hO) (fun i hi' => ?_)
    by_cases z : i = v
    · rw [z, sI_e, pk_us]
    · rw [sI_e, pk_un (fun y => z (hi i v (by omega) (by omega) y))]; exact h1 i (by omega)
end
