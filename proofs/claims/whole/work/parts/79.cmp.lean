/-! the pure half: which visit comes first -/
def lexF (f g : Nat → Int64) : Nat → Nat → Nat → Bool
  | _, _, 0 => false
  | _, 0, _ + 1 => true
  | i, m + 1, n + 1 => if f i = g i then lexF f g (i + 1) m n else decide (f i < g i)
theorem lexB_rng (f g : Nat → Int64) : ∀ m n i, lexB ((List.range' i m).map f) ((List.range' i n).map g) = lexF f g i m n := by
  intro m
  induction m with
  | zero =>
    intro n i
    cases n with
    | zero => rfl
    | succ n => simp [List.range'_succ, lexB, lexF]
  | succ m ih =>
    intro n i
    cases n with
    | zero => simp [List.range'_succ, lexB, lexF]
    | succ n =>
      rw [List.range'_succ, List.range'_succ, List.map_cons, List.map_cons]
      unfold lexB lexF
      rw [ih n (i + 1)]
theorem lexB_r0 (f g : Nat → Int64) (m n : Nat) : lexB ((List.range m).map f) ((List.range n).map g) = lexF f g 0 m n := by
  rw [List.range_eq_range', List.range_eq_range']; exact lexB_rng f g m n 0
theorem key_eq {f g : Nat → Int64} {m n : Nat} : (List.range m).map f = (List.range n).map g ↔ m = n ∧ ∀ j, j < m → f j = g j := by
  constructor
  · intro h
    have hl := congrArg List.length h
    simp only [List.length_map, List.length_range] at hl
    subst hl
    refine ⟨rfl, fun j hj => ?_⟩
    have := congrArg (fun l => l[j]?) h
    simpa [List.getElem?_map, List.getElem?_range, hj] using this
  · intro ⟨h1, h2⟩
    subst h1
    exact List.map_congr_left (fun j hj => h2 j (List.mem_range.mp hj))
/-- lexF skips what is alike -/
theorem lexF_sk {f g : Nat → Int64} : ∀ i m n k, (∀ j, k ≤ j → j < k + i → f j = g j) → i ≤ m → i ≤ n → lexF f g k m n = lexF f g (k + i) (m - i) (n - i) := by
  intro i
  induction i with
  | zero => intro m n k _ _ _; rfl
  | succ i ih =>
    intro m n k h hm hn
    obtain ⟨m, rfl⟩ : ∃ z, m = z + 1 := ⟨m - 1, by omega⟩
    obtain ⟨n, rfl⟩ : ∃ z, n = z + 1 := ⟨n - 1, by omega⟩
    show (if f k = g k then lexF f g (k + 1) m n else decide (f k < g k)) = _
    rw [if_pos (h k (by omega) (by omega)), ih m n (k + 1) (fun j a b => h j (by omega) (by omega)) (by omega) (by omega), show k + 1 + i = k + (i + 1) by omega, show m + 1 - (i + 1) = m - i by omega, show n + 1 - (i + 1) = n - i by omega]
section
variable {rm cm : Nat → Int32} {σ : Ws} {M : Mem}
/-- the class: v is behind w -/
theorem ib54 {v w m n : Nat} {tv tw : Nat → Int64} (hv : v < 400) (hw : w < 400) (hm : m ≤ 16) (hn : n ≤ 16) (e1 : ∀ i, i < m → M.2.1 56 (v * 16 + i) = tv i) (e2 : ∀ i, i < n → M.2.1 56 (w * 16 + i) = tw i) :
    ∀ r i s f, i + r = s → r < f → (s = m ∧ m ≤ n ∨ s = n ∧ n < m) → f_X10_isBehind_54 f (nI v) (nI w) (nI m) (nI n) (nI s) (nI i) M = some (lexF tw tv i (n - i) (m - i)) := by
  intro r
  induction r with
  | zero =>
    intro i s f hi hf hs
    obtain ⟨f, rfl⟩ : ∃ z, f = z + 1 := ⟨f - 1, by omega⟩
    rw [f_X10_isBehind_54, if_pos (nI_le (by omega) (by omega))]
    rcases hs with ⟨h1, h2⟩ | ⟨h1, h2⟩
    · rw [if_pos (nI_le h2 (by omega)), show m - i = 0 by omega]
      cases n - i <;> rfl
    · rw [if_neg (nI_ge h2 (by omega)), show n - i = 0 by omega]
      obtain ⟨z, hz⟩ : ∃ z, m - i = z + 1 := ⟨m - i - 1, by omega⟩
      rw [hz]; rfl
  | succ r ih =>
    intro i s f hi hf hs
    obtain ⟨f, rfl⟩ : ∃ z, f = z + 1 := ⟨f - 1, by omega⟩
    rw [f_X10_isBehind_54, if_neg (nI_ge (by omega) (by omega)), i_n16, pk_mul, pk_mul, nI_add, nI_add, ck_nI (by omega) (by omega), ck_nI (by omega) (by omega), nI_clamp (by omega), nI_clamp (by omega), e1 i (by omega), e2 i (by omega), nI_1, ih (i + 1) s f (by omega) (by omega) hs]
    obtain ⟨a, ha⟩ : ∃ z, n - i = z + 1 := ⟨n - i - 1, by omega⟩
    obtain ⟨b, hb⟩ : ∃ z, m - i = z + 1 := ⟨m - i - 1, by omega⟩
    rw [ha, hb, show n - (i + 1) = a by omega, show m - (i + 1) = b by omega]
    show _ = some (if tw i = tv i then lexF tw tv (i + 1) a b else decide (tw i < tv i))
    by_cases z : tv i = tw i
    · rw [if_pos z, if_pos z.symm]
    · rw [if_neg z, if_neg (show ¬ tw i = tv i from fun y => z y.symm)]
      by_cases y : tv i ≤ tw i
      · rw [if_pos y, decide_eq_false (Int64.not_lt.mpr y)]
      · rw [if_neg y, decide_eq_true (Int64.not_le.mp y)]
/-- the reference: v is ahead of w -/
theorem ah28 {v w m n : Nat} {tv tw : Nat → Int64} (hv : v < 400) (hw : w < 400) (hm : m ≤ 16) (hn : n ≤ 16) (e1 : ∀ i, i < m → M.2.1 37 (16 * v + i) = tv i) (e2 : ∀ i, i < n → M.2.1 37 (16 * w + i) = tw i) :
    ∀ r i f, i + r = 17 → r < f → i ≤ m → i ≤ n → (∀ j, j < i → tv j = tw j) → ∃ b, f_X12_isAhead_28 f (nI v) (nI w) (nI m) (nI n) (nI i) M = some b ∧ (b = true ↔ lexF tv tw 0 m n = true ∨ ((m = n ∧ ∀ j, j < m → tv j = tw j) ∧ v < w)) := by
  intro r
  induction r with
  | zero => intro i f hi hf him hin; omega
  | succ r ih =>
    intro i f hi hf him hin hp
    obtain ⟨f, rfl⟩ : ∃ z, f = z + 1 := ⟨f - 1, by omega⟩
    have sk : lexF tv tw 0 m n = lexF tv tw i (m - i) (n - i) := by
      have := lexF_sk (f := tv) (g := tw) i m n 0 (fun j _ hj => hp j (by omega)) him hin
      rw [Nat.zero_add] at this
      exact this
    rw [f_X12_isAhead_28]
    unfold f_X12_isAhead_109
    have fin : i = m ∨ i = n → ∃ b, (if nI m = nI n then (if nI w ≤ nI v then some false else some true) else (if nI n ≤ nI m then some false else some true)) = some b ∧ (b = true ↔ lexF tv tw 0 m n = true ∨ ((m = n ∧ ∀ j, j < m → tv j = tw j) ∧ v < w)) := by
      intro hmn
      by_cases q : m = n
      · subst q
        have ei : i = m := by omega
        subst ei
        have lf : lexF tv tw 0 i i = false := by rw [sk, Nat.sub_self]; rfl
        rw [if_pos rfl]
        by_cases z : w ≤ v
        · rw [if_pos (nI_le z (by omega))]
          exact ⟨false, rfl, fun y => absurd y (by decide), fun y => by
            rcases y with y | y
            · rw [lf] at y; exact absurd y (by decide)
            · omega⟩
        · rw [if_neg (nI_ge (by omega) (by omega))]
          exact ⟨true, rfl, fun _ => .inr ⟨⟨rfl, hp⟩, by omega⟩, fun _ => rfl⟩
      · rw [if_neg (fun y => q (nI_inj (by omega) (by omega) y))]
        by_cases z : n ≤ m
        · have ei : i = n := by omega
          have lf : lexF tv tw 0 m n = false := by rw [sk, show n - i = 0 by omega]; cases m - i <;> rfl
          rw [if_pos (nI_le z (by omega))]
          exact ⟨false, rfl, fun y => absurd y (by decide), fun y => by
            rcases y with y | y
            · rw [lf] at y; exact absurd y (by decide)
            · exact absurd y.1.1 q⟩
        · have ei : i = m := by omega
          obtain ⟨b, hb⟩ : ∃ y, n - i = y + 1 := ⟨n - i - 1, by omega⟩
          have lf : lexF tv tw 0 m n = true := by rw [sk, show m - i = 0 by omega, hb]; rfl
          rw [if_neg (nI_ge (by omega) (by omega))]
          exact ⟨true, rfl, fun _ => .inl lf, fun _ => rfl⟩
    by_cases q1 : m ≤ i
    · rw [if_pos (nI_le q1 (by omega))]; exact fin (.inl (by omega))
    · rw [if_neg (nI_ge (by omega) (by omega))]
      by_cases q2 : n ≤ i
      · rw [if_pos (nI_le q2 (by omega))]; exact fin (.inr (by omega))
      · rw [if_neg (nI_ge (by omega) (by omega)), i_n16, pk_mul, pk_mul, nI_add, nI_add]
        simp only [ck_nI (show 16 * v + i < 6400 by omega) (by decide : (6400 : Nat) < 2 ^ 31), ck_nI (show 16 * w + i < 6400 by omega) (by decide : (6400 : Nat) < 2 ^ 31), nI_clamp (show 16 * v + i < 2 ^ 31 by omega), nI_clamp (show 16 * w + i < 2 ^ 31 by omega)]
        rw [e1 i (by omega), e2 i (by omega), nI_1]
        by_cases z : tv i = tw i
        · rw [if_pos z]
          exact ih (i + 1) f (by omega) (by omega) (by omega) (by omega) (fun j hj => by
            by_cases y : j = i
            · rw [y]; exact z
            · exact hp j (by omega))
        · obtain ⟨a, ha⟩ : ∃ y, m - i = y + 1 := ⟨m - i - 1, by omega⟩
          obtain ⟨b, hb⟩ : ∃ y, n - i = y + 1 := ⟨n - i - 1, by omega⟩
          have lf : lexF tv tw 0 m n = decide (tv i < tw i) := by
            rw [sk, ha, hb]
            show (if tv i = tw i then _ else _) = _
            rw [if_neg z]
          rw [if_neg z, lf]
          have nk : ¬ (m = n ∧ ∀ j, j < m → tv j = tw j) := fun y => z (y.2 i (by omega))
          by_cases y : tw i ≤ tv i
          · rw [if_pos y]
            exact ⟨false, rfl, fun x => absurd x (by decide), fun x => by
              rcases x with x | x
              · exact absurd (of_decide_eq_true x) (Int64.not_lt.mpr y)
              · exact absurd x.1 nk⟩
          · rw [if_neg y]
            exact ⟨true, rfl, fun _ => .inl (decide_eq_true (Int64.not_le.mp y)), fun _ => rfl⟩
/-- times as they stand in a memory -/
def TmC (rm cm : Nat → Int32) (σ : Ws) (M : Mem) (n : Nat) : Prop := ∀ v, v < n → ∀ i, i < cN_ (rm (wA σ v)) → M.2.1 56 (v * 16 + i) = timO cm σ v i
def TmM (rm cm : Nat → Int32) (σ : Ws) (M : Mem) (n : Nat) : Prop := ∀ v, v < n → ∀ i, i < cN_ (rm (wA σ v)) → M.2.1 37 (16 * v + i) = timO cm σ v i
theorem ib_eq {na v w : Nat} {an lp : Nat → Int32} (hV : VW na an σ (M.1 110 0) (M.1 35) (M.2.1 36)) (hna : na ≤ 12) (hO : OW na an lp (M.1 29) (M.1 28) rm cm) (hnk : ∀ v, v < wN σ → wA σ v < 40) (hT : TmC rm cm σ M (wN σ)) (hv : v < wN σ) (hw : w < wN σ) : f_X10_isBehind M (nI v) (nI w) = some (lexB (keyO rm cm σ w) (keyO rm cm σ v)) := by
  obtain ⟨_, hN, hV3⟩ := hV
  obtain ⟨⟨a, ha, a1, a2⟩, _⟩ := hV3 v hv
  obtain ⟨⟨b, hb, b1, b2⟩, _⟩ := hV3 w hw
  obtain ⟨m, m1, m2, _, m3⟩ := hO a ha
  obtain ⟨n, n1, n2, _, n3⟩ := hO b hb
  have k1 := hnk v hv
  have k2 := hnk w hw
  rw [a2, cN_n' (by omega)] at m2
  rw [b2, cN_n' (by omega)] at n2
  have hm : m ≤ 16 := m3.2.1
  have hn : n ≤ 16 := n3.2.1
  have qm : cN_ (rm (wA σ v)) = m := by rw [m2]; exact cN_n' (by omega)
  have qn : cN_ (rm (wA σ w)) = n := by rw [n2]; exact cN_n' (by omega)
  unfold f_X10_isBehind keyO
  rw [ck_nI (by omega) (by omega), nI_clamp (by omega), a1, ck_nI (by omega) (by omega), ck_nI (by omega) (by omega), nI_clamp (by omega), b1, ck_nI (by omega) (by omega), nI_clamp (by omega), nI_clamp (by omega), m1, n1, qm, qn, lexB_r0]
  have e1 : ∀ i, i < m → M.2.1 56 (v * 16 + i) = timO cm σ v i := fun i hi => hT v hv i (by omega)
  have e2 : ∀ i, i < n → M.2.1 56 (w * 16 + i) = timO cm σ w i := fun i hi => hT w hw i (by omega)
  unfold f_J9_min_7cf53
  by_cases q : n < m
  · rw [if_pos (nI_lt q (by omega)), bq_s, i_n0, ib54 (by omega) (by omega) hm hn e1 e2 n 0 n 100000 (by omega) (by omega) (.inr ⟨rfl, q⟩)]; rfl
  · rw [if_neg (nI_nlt (by omega) (by omega)), bq_s, i_n0, ib54 (by omega) (by omega) hm hn e1 e2 m 0 m 100000 (by omega) (by omega) (.inl ⟨rfl, by omega⟩)]; rfl
theorem ah_eq {v w : Nat} (hVM : VM σ M) (hN : wN σ ≤ 400) (h30 : ∀ v, v < wN σ → ∃ q, q ≤ 16 ∧ rm (wA σ v) = nI q) (e30 : M.1 30 = rm) (hnk : ∀ v, v < wN σ → wA σ v < 40) (hT : TmM rm cm σ M (wN σ)) (hv : v < wN σ) (hw : w < wN σ) : ∃ b, f_X12_isAhead M (nI v) (nI w) = some b ∧ (b = true ↔ ahd rm cm σ v w) := by
  have k1 := hnk v hv
  have k2 := hnk w hw
  obtain ⟨m, hm, m2⟩ := h30 v hv
  obtain ⟨n, hn, n2⟩ := h30 w hw
  have qm : cN_ (rm (wA σ v)) = m := by rw [m2]; exact cN_n' (by omega)
  have qn : cN_ (rm (wA σ w)) = n := by rw [n2]; exact cN_n' (by omega)
  unfold f_X12_isAhead ahd keyO
  rw [ck_nI (by omega) (by omega), nI_clamp (by omega), hVM.2.1 v hv, ck40 k1, ck_nI (by omega) (by omega), nI_clamp (by omega), hVM.2.1 w hw, ck40 k2, nI_clamp (by omega), nI_clamp (by omega), e30, m2, n2, cN_n' (by omega), cN_n' (by omega), lexB_r0, key_eq, i_n0]
  exact ah28 (by omega) (by omega) hm hn (fun i hi => hT v hv i (by omega)) (fun i hi => hT w hw i (by omega)) 17 0 100000 (by omega) (by omega) (by omega) (by omega) (fun j hj => absurd hj (by omega))
end
