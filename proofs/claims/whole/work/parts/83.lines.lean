/-! the pure half: lines -/
theorem goO_cg {σ : Ws} {sq sq' : Nat → Nat} {n f i : Nat} (e : ∀ i, i < n → sq i = sq' i) (h : f < i) (hi : i < n) : goO σ sq f i ↔ goO σ sq' f i := by
  unfold goO
  rw [e (i - 1) (by omega), e i hi, e (f + 1) (by omega), e f (by omega)]
def BL (σ : Ws) (sq : Nat → Nat) (l p : Nat) (c : Nat → Int32) : Prop := ∃ b : Nat → Nat, b 0 = 0 ∧ b l = p ∧ (∀ j, j < l → c j = nI (b j)) ∧ ∀ j, j < l → b j < b (j + 1) ∧ b (j + 1) ≤ wN σ ∧ (∀ i, b j < i → i < b (j + 1) → goO σ sq (b j) i) ∧ (b (j + 1) < wN σ → ¬ goO σ sq (b j) (b (j + 1)))
section
variable {σ : Ws} {sq : Nat → Nat} {l p : Nat} {c : Nat → Int32}
theorem BL_le (h : BL σ sq l p c) : l ≤ p := by
  obtain ⟨b, b0, b1, b2, b3⟩ := h
  have : ∀ j, j ≤ l → j ≤ b j := by
    intro j
    induction j with
    | zero => intro _; omega
    | succ j ih => intro hj; have := ih (by omega); have := (b3 j (by omega)).1; omega
  have := this l (Nat.le_refl l)
  omega
theorem BL_s (h : BL σ sq l p c) {e : Nat} (h1 : p < e) (h2 : e ≤ wN σ) (h3 : ∀ i, p < i → i < e → goO σ sq p i) (h4 : e < wN σ → ¬ goO σ sq p e) : BL σ sq (l + 1) e (upd c l (nI p)) := by
  obtain ⟨b, b0, b1, b2, b3⟩ := h
  refine ⟨va_up b (l + 1) e, by rw [va_up_ne _ _ (by omega)]; exact b0, va_up_self _ _ _, fun j hj => ?_, fun j hj => ?_⟩
  · rw [va_up_ne _ _ (show j ≠ l + 1 by omega)]
    by_cases z : j = l
    · rw [z, pk_us, b1]
    · rw [pk_un z]; exact b2 j (by omega)
  · rw [va_up_ne _ _ (show j ≠ l + 1 by omega)]
    by_cases z : j = l
    · rw [z, va_up_self, b1]; exact ⟨h1, h2, h3, h4⟩
    · rw [va_up_ne _ _ (show j + 1 ≠ l + 1 by omega)]; exact b3 j (by omega)
theorem BL_W (h : BL σ sq l (wN σ) c) : BW σ sq (nI l) (upd c l (nI (wN σ))) := by
  have hle := BL_le h
  obtain ⟨b, b0, b1, b2, b3⟩ := h
  have e : ∀ j, j ≤ l → upd c l (nI (wN σ)) j = nI (b j) := by
    intro j hj
    by_cases z : j = l
    · rw [z, pk_us, b1]
    · rw [pk_un z]; exact b2 j (by omega)
  exact ⟨l, rfl, hle, by rw [e 0 (by omega), b0], by rw [e l (by omega), b1], fun j hj => ⟨b j, b (j + 1), e j (by omega), e (j + 1) (by omega), b3 j hj⟩⟩
theorem BW_un {sq' : Nat → Nat} {x x' : Int32} {c' : Nat → Int32} (hN : wN σ ≤ 400) (e : ∀ i, i < wN σ → sq i = sq' i) (h : BW σ sq x c) (h' : BW σ sq' x' c') : ∃ L, x = nI L ∧ x' = nI L ∧ L ≤ wN σ ∧ ∀ j, j ≤ L → c j = c' j := by
  obtain ⟨L, a1, a2, a3, a4, a5⟩ := h
  obtain ⟨L', b1, b2, b3, b4, b5⟩ := h'
  have main : ∀ j, j ≤ L → j ≤ L' → c j = c' j := by
    intro j
    induction j with
    | zero => intro _ _; rw [a3, b3]
    | succ j ih =>
      intro h1 h2
      have q := ih (by omega) (by omega)
      obtain ⟨s, e1, s1, s2, s3, s4, s5, s6⟩ := a5 j (by omega)
      obtain ⟨t, e2, t1, t2, t3, t4, t5, t6⟩ := b5 j (by omega)
      have st : s = t := by rw [s1, t1] at q; exact nI_inj (by omega) (by omega) q
      subst st
      rw [s2, t2]
      rcases Nat.lt_trichotomy e1 e2 with z | z | z
      · exact absurd ((goO_cg e s3 (by omega)).mpr (t5 e1 s3 z)) (s6 (by omega))
      · rw [z]
      · exact absurd ((goO_cg e t3 (by omega)).mp (s5 e2 t3 z)) (t6 (by omega))
  have LL : L = L' := by
    rcases Nat.lt_trichotomy L L' with z | z | z
    · obtain ⟨t, e2, t1, t2, t3, t4, _⟩ := b5 L z
      have := main L (by omega) (by omega)
      rw [a4, t1] at this
      have := nI_inj (by omega) (by omega) this
      omega
    · exact z
    · obtain ⟨t, e2, t1, t2, t3, t4, _⟩ := a5 L' z
      have := main L' (by omega) (by omega)
      rw [b4, t1] at this
      have := nI_inj (by omega) (by omega) this
      omega
  subst LL
  exact ⟨L, a1, b1, a2, fun j hj => main j hj hj⟩
theorem act_line : ∀ m, (∀ j, p < j → j < p + m + 1 → goO σ sq p j) → wA σ (sq (p + m)) = wA σ (sq p) := by
  intro m
  induction m with
  | zero => intro _; rfl
  | succ m ih =>
    intro h
    have := (h (p + m + 1) (by omega) (by omega)).1
    rw [show p + m + 1 - 1 = p + m by omega] at this
    rw [show p + (m + 1) = p + m + 1 by omega, ← this]
    exact ih (fun j a b => h j a (by omega))
end
section
variable {M0 : Mem} {σ : Ws} {sq : Nat → Nat} {na : Nat} {an : Nat → Int32}
theorem g62 {M : Mem} {u v x y : Nat} (hV : VW na an σ (M.1 110 0) (M.1 35) (M.2.1 36)) (hu : u < wN σ) (hv : v < wN σ) (hx : x < wN σ) (hy : y < wN σ) :
    ∀ r d f, d + r = 4 → r < f → ∃ b, f_X10_goesOn_62 f (nI u) (nI v) (nI x) (nI y) (nI d) M = some b ∧ (b = true ↔ ∀ e, d ≤ e → e < 4 → wL σ (v * 4 + e) - wL σ (u * 4 + e) = wL σ (y * 4 + e) - wL σ (x * 4 + e)) := by
  have hN := hV.2.1
  have st : ∀ {a b d : Nat}, a < wN σ → b < wN σ → d < 4 → f_X0_step M (nI a) (nI b) (nI d) = some (wL σ (b * 4 + d) - wL σ (a * 4 + d)) := by
    intro a b d ha hb hd
    unfold f_X0_step
    rw [i_n4, pk_mul, pk_mul, nI_add, nI_add, ck_nI (by omega) (by omega), ck_nI (by omega) (by omega), nI_clamp (by omega), nI_clamp (by omega), (hV.2.2 a ha).2 d hd, (hV.2.2 b hb).2 d hd]
  intro r
  induction r with
  | zero =>
    intro d f hd hf
    obtain ⟨f, rfl⟩ : ∃ z, f = z + 1 := ⟨f - 1, by omega⟩
    rw [f_X10_goesOn_62, i_n4, if_pos (nI_le (by omega) (by omega))]
    exact ⟨true, rfl, fun _ e a b => by omega, fun _ => rfl⟩
  | succ r ih =>
    intro d f hd hf
    obtain ⟨f, rfl⟩ : ∃ z, f = z + 1 := ⟨f - 1, by omega⟩
    rw [f_X10_goesOn_62, i_n4, if_neg (nI_ge (by omega) (by omega)), st hu hv (by omega), bq_s, st hx hy (by omega), bq_s, nI_1]
    by_cases q : wL σ (v * 4 + d) - wL σ (u * 4 + d) = wL σ (y * 4 + d) - wL σ (x * 4 + d)
    · rw [if_pos q]
      obtain ⟨b, e1, e2⟩ := ih (d + 1) f (by omega) (by omega)
      refine ⟨b, e1, fun z e a a' => ?_, fun z => e2.mpr (fun e a a' => z e (by omega) a')⟩
      by_cases y : e = d
      · rw [y]; exact q
      · exact e2.mp z e (by omega) a'
    · rw [if_neg q]
      exact ⟨false, rfl, fun z => absurd z (by decide), fun z => absurd (z d (by omega) (by omega)) q⟩
theorem go_c {M : Mem} {p i : Nat} (hV : VW na an σ (M.1 110 0) (M.1 35) (M.2.1 36)) (hna : na ≤ 12) (hj : ∀ a b, a < na → b < na → an a = an b → a = b) (hk : ∀ v, v < wN σ → wA σ v < 40) (hs : ∀ i, i < wN σ → M.1 57 i = nI (sq i) ∧ sq i < wN σ) (h1 : p < i) (h2 : i < wN σ) : ∃ b, f_X10_goesOn M (nI p) (nI i) = some b ∧ (b = true ↔ goO σ sq p i) := by
  have hN := hV.2.1
  obtain ⟨i, rfl⟩ : ∃ z, i = z + 1 := ⟨i - 1, by omega⟩
  have s1 := hs i (by omega)
  have s2 := hs (i + 1) h2
  have s3 := hs p (by omega)
  have s4 := hs (p + 1) (by omega)
  obtain ⟨⟨a, ha, a1, a2⟩, _⟩ := hV.2.2 (sq i) s1.2
  obtain ⟨⟨b, hb, b1, b2⟩, _⟩ := hV.2.2 (sq (i + 1)) s2.2
  have k1 := hk _ s1.2
  have k2 := hk _ s2.2
  unfold f_X10_goesOn goO
  rw [nI_pred, ck_nI (by omega) (by omega), ck_nI (by omega) (by omega), nI_clamp (by omega), nI_clamp (by omega), s1.1, s2.1, ck_nI (by omega) (by omega), ck_nI (by omega) (by omega), nI_clamp (by omega), nI_clamp (by omega), a1, b1, show i + 1 - 1 = i by omega]
  by_cases q : nI a = nI b
  · have ab := nI_inj (by omega) (by omega) q
    have wq : wA σ (sq i) = wA σ (sq (i + 1)) := by rw [ab, b2] at a2; exact (nI_inj (by omega) (by omega) a2).symm
    rw [if_pos q, nI_1, ck_nI (by omega) (by omega), ck_nI (by omega) (by omega), nI_clamp (by omega), nI_clamp (by omega), s3.1, s4.1]
    obtain ⟨b, e1, e2⟩ := g62 (M := M) hV s1.2 s2.2 s3.2 s4.2 4 0 100000 (by omega) (by omega)
    exact ⟨b, e1, fun z => ⟨wq, fun d hd => e2.mp z d (by omega) hd⟩, fun z => e2.mpr (fun e _ he => z.2 e he)⟩
  · rw [if_neg q]
    refine ⟨false, rfl, fun z => absurd z (by decide), fun z => ?_⟩
    have := z.1
    rw [this, ← b2] at a2
    exact absurd (congrArg nI (hj a b ha hb a2)) q
theorem el_c {M : Mem} {p : Nat} (hV : VW na an σ (M.1 110 0) (M.1 35) (M.2.1 36)) (hna : na ≤ 12) (hj : ∀ a b, a < na → b < na → an a = an b → a = b) (hk : ∀ v, v < wN σ → wA σ v < 40) (hs : ∀ i, i < wN σ → M.1 57 i = nI (sq i) ∧ sq i < wN σ) :
    ∀ r i f, i + r = wN σ → r < f → p < i → (∀ j, p < j → j < i → goO σ sq p j) → ∃ e, f_X10_endOfLine_4 f (nI p) (nI i) M = some (nI e) ∧ p < e ∧ e ≤ wN σ ∧ (∀ j, p < j → j < e → goO σ sq p j) ∧ (e < wN σ → ¬ goO σ sq p e) := by
  have hN := hV.2.1
  intro r
  induction r with
  | zero =>
    intro i f hi hf hp hg
    obtain ⟨f, rfl⟩ : ∃ z, f = z + 1 := ⟨f - 1, by omega⟩
    rw [f_X10_endOfLine_4, hV.1, if_pos (nI_le (by omega) (by omega))]
    exact ⟨i, rfl, hp, by omega, hg, fun z => by omega⟩
  | succ r ih =>
    intro i f hi hf hp hg
    obtain ⟨f, rfl⟩ : ∃ z, f = z + 1 := ⟨f - 1, by omega⟩
    obtain ⟨b, e1, e2⟩ := go_c (sq := sq) hV hna hj hk hs hp (by omega)
    rw [f_X10_endOfLine_4, hV.1, if_neg (nI_ge (by omega) (by omega)), e1, bq_s, nI_1]
    cases b with
    | true =>
      rw [bT]
      exact ih (i + 1) f (by omega) (by omega) (by omega) (fun j a b => by
        by_cases z : j = i
        · rw [z]; exact e2.mp rfl
        · exact hg j a (by omega))
    | false =>
      rw [bF]
      exact ⟨i, rfl, hp, by omega, hg, fun _ z => absurd (e2.mpr z) (by decide)⟩
def On5 (M M' : Mem) : Prop := (∀ c, c ≠ 62 → c ≠ 122 → c ≠ 123 → M'.1 c = M.1 c) ∧ M'.2 = M.2
theorem pl_c (hV : VW na an σ (M0.1 110 0) (M0.1 35) (M0.2.1 36)) (hna : na ≤ 12) (hj : ∀ a b, a < na → b < na → an a = an b → a = b) (hk : ∀ v, v < wN σ → wA σ v < 40) (hs : ∀ i, i < wN σ → M0.1 57 i = nI (sq i) ∧ sq i < wN σ) :
    ∀ r p l f M, wN σ ≤ p + r → r < f → On5 M0 M → M.1 122 0 = nI l → BL σ sq l p (M.1 62) → p ≤ wN σ → ∃ M', f_X10_partLines_21 f (nI p) (nI l) M = some M' ∧ On5 M0 M' ∧ M'.1 123 0 = bI true ∧ BW σ sq (M'.1 122 0) (M'.1 62) := by
  have hN := hV.2.1
  have fin : ∀ l p M, On5 M0 M → M.1 122 0 = nI l → BL σ sq l p (M.1 62) → p = wN σ → ∃ M', f_X10_partLines_71 M = some M' ∧ On5 M0 M' ∧ M'.1 123 0 = bI true ∧ BW σ sq (M'.1 122 0) (M'.1 62) := by
    intro l p M hO h122 hB hp
    subst hp
    have hle := BL_le hB
    unfold f_X10_partLines_71
    rw [h122, ck_nI (by omega) (by omega), nI_clamp (by omega), hO.1 110 (by decide) (by decide) (by decide), hV.1]
    refine ⟨_, rfl, ⟨fun c x1 x2 x3 => by rw [sI_n x3, sI_n x1]; exact hO.1 c x1 x2 x3, hO.2⟩, by rw [sI_e, pk_us], ?_⟩
    rw [sI_n (by decide), sI_n (by decide), h122, sI_n (by decide), sI_e]
    exact BL_W hB
  intro r
  induction r with
  | zero =>
    intro p l f M hr hf hO h122 hB hp
    obtain ⟨f, rfl⟩ : ∃ z, f = z + 1 := ⟨f - 1, by omega⟩
    rw [f_X10_partLines_21, hO.1 110 (by decide) (by decide) (by decide), hV.1, if_pos (nI_le (by omega) (by omega)), ite_self]
    exact fin l p M hO h122 hB (by omega)
  | succ r ih =>
    intro p l f M hr hf hO h122 hB hp
    obtain ⟨f, rfl⟩ : ∃ z, f = z + 1 := ⟨f - 1, by omega⟩
    have hle := BL_le hB
    by_cases q : wN σ ≤ p
    · rw [f_X10_partLines_21, hO.1 110 (by decide) (by decide) (by decide), hV.1, if_pos (show nI (wN σ) ≤ nI p from nI_le q (by omega)), ite_self]
      exact fin l p M hO h122 hB (by omega)
    · rw [f_X10_partLines_21, hO.1 110 (by decide) (by decide) (by decide), hV.1, if_neg (show ¬ 400 ≤ nI l from nI_ge (b := 400) (by omega) (by omega)), if_neg (nI_ge (by omega) (by omega)), h122, ck_nI (by omega) (by omega), nI_clamp (by omega), sI_n (by decide), h122, nI_1]
      have hO2 : On5 M0 (sI (sI M 62 l (nI p)) 122 0 (nI (l + 1))) := ⟨fun c x1 x2 x3 => by rw [sI_n x2, sI_n x1]; exact hO.1 c x1 x2 x3, hO.2⟩
      obtain ⟨e, e1, e2, e3, e4, e5⟩ := el_c (M := sI (sI M 62 l (nI p)) 122 0 (nI (l + 1))) (sq := sq) (p := p) (na := na) (an := an) (by rw [hO2.1 110 (by decide) (by decide) (by decide), hO2.1 35 (by decide) (by decide) (by decide), hO2.2]; exact hV) hna hj hk (by rw [hO2.1 57 (by decide) (by decide) (by decide)]; exact hs) (wN σ - (p + 1)) (p + 1) 100000 (by omega) (by omega) (by omega) (fun j a b => by omega)
      unfold f_X10_endOfLine
      rw [nI_1, e1, bq_s]
      refine ih e (l + 1) f _ (by omega) (by omega) hO2 (by rw [sI_e, pk_us]) ?_ e3
      rw [sI_n (by decide), sI_e]
      exact BL_s hB e2 e3 e4 e5
/-- the reference -/
theorem g59 {M : Mem} {u v x y : Nat} (hVM : VM σ M) (hN : wN σ ≤ 400) (hu : u < wN σ) (hv : v < wN σ) (hx : x < wN σ) (hy : y < wN σ) :
    ∀ r d f b0, d + r = 4 → r < f → ∃ b, f_X12_goesOnWith_59 f (nI x) (nI u) (nI v) (nI y) b0 (nI d) M = some b ∧ (b = true ↔ b0 = true ∧ ∀ e, d ≤ e → e < 4 → wL σ (v * 4 + e) - wL σ (u * 4 + e) = wL σ (y * 4 + e) - wL σ (x * 4 + e)) := by
  intro r
  induction r with
  | zero =>
    intro d f b0 hd hf
    obtain ⟨f, rfl⟩ : ∃ z, f = z + 1 := ⟨f - 1, by omega⟩
    rw [f_X12_goesOnWith_59, i_n4, if_pos (nI_le (by omega) (by omega))]
    exact ⟨b0, rfl, fun z => ⟨z, fun e a b => by omega⟩, fun z => z.1⟩
  | succ r ih =>
    intro d f b0 hd hf
    obtain ⟨f, rfl⟩ : ∃ z, f = z + 1 := ⟨f - 1, by omega⟩
    rw [f_X12_goesOnWith_59, i_n4, if_neg (nI_ge (by omega) (by omega)), nI_1]
    cases b0 with
    | false =>
      rw [bF]
      obtain ⟨b, e1, e2⟩ := ih (d + 1) f false (by omega) (by omega)
      exact ⟨b, e1, fun z => absurd (e2.mp z).1 (by decide), fun z => absurd z.1 (by decide)⟩
    | true =>
      rw [bT, pk_mul, pk_mul, pk_mul, pk_mul, nI_add, nI_add, nI_add, nI_add, ck_nI (by omega) (by omega), ck_nI (by omega) (by omega), ck_nI (by omega) (by omega), ck_nI (by omega) (by omega), nI_clamp (by omega), nI_clamp (by omega), nI_clamp (by omega), nI_clamp (by omega), hVM.2.2 _ (by omega), hVM.2.2 _ (by omega), hVM.2.2 _ (by omega), hVM.2.2 _ (by omega), Nat.mul_comm 4 v, Nat.mul_comm 4 u, Nat.mul_comm 4 x, Nat.mul_comm 4 y]
      by_cases q : wL σ (v * 4 + d) - wL σ (u * 4 + d) = wL σ (y * 4 + d) - wL σ (x * 4 + d)
      · rw [if_pos q]
        obtain ⟨b, e1, e2⟩ := ih (d + 1) f true (by omega) (by omega)
        refine ⟨b, e1, fun z => ⟨rfl, fun e a a' => ?_⟩, fun z => e2.mpr ⟨rfl, fun e a a' => z.2 e (by omega) a'⟩⟩
        by_cases y : e = d
        · rw [y]; exact q
        · exact (e2.mp z).2 e (by omega) a'
      · rw [if_neg q]
        obtain ⟨b, e1, e2⟩ := ih (d + 1) f false (by omega) (by omega)
        exact ⟨b, e1, fun z => absurd (e2.mp z).1 (by decide), fun z => absurd (z.2 d (by omega) (by omega)) q⟩
theorem go_m {M : Mem} {p i : Nat} (hVM : VM σ M) (hN : wN σ ≤ 400) (hk : ∀ v, v < wN σ → wA σ v < 40) (hs : ∀ i, i < wN σ → M.1 38 i = nI (sq i) ∧ sq i < wN σ) (h1 : p < i) (h2 : i < wN σ) (ha : wA σ (sq (i - 1)) = wA σ (sq p)) : ∃ b, f_X12_goesOnWith M (nI p) (nI i) = some b ∧ (b = true ↔ goO σ sq p i) := by
  obtain ⟨i, rfl⟩ : ∃ z, i = z + 1 := ⟨i - 1, by omega⟩
  have s1 := hs i (by omega)
  have s2 := hs (i + 1) h2
  have s3 := hs p (by omega)
  have s4 := hs (p + 1) (by omega)
  have k2 := hk _ s2.2
  have k3 := hk _ s3.2
  unfold f_X12_goesOnWith goO
  rw [nI_pred, ck_nI (show p < 401 by omega) (by omega), ck_nI (show i < 401 by omega) (by omega), ck_nI (by omega) (by omega), nI_clamp (show i + 1 < 2 ^ 31 by omega), nI_clamp (show p < 2 ^ 31 by omega), s2.1, s3.1, ck_nI (by omega) (by omega), ck_nI (by omega) (by omega), nI_clamp (by omega), nI_clamp (by omega), hVM.2.1 _ s2.2, hVM.2.1 _ s3.2, show i + 1 - 1 = i by omega]
  rw [show i + 1 - 1 = i by omega] at ha
  by_cases q : nI (wA σ (sq (i + 1))) = nI (wA σ (sq p))
  · have wq := nI_inj (by omega) (by omega) q
    rw [if_pos q, nI_1, ck_nI (by omega) (by omega), nI_clamp (by omega), nI_clamp (by omega), s1.1, s4.1]
    obtain ⟨b, e1, e2⟩ := g59 (M := M) hVM hN s1.2 s2.2 s3.2 s4.2 4 0 100000 true (by omega) (by omega)
    exact ⟨b, e1, fun z => ⟨by rw [ha, wq], fun d hd => (e2.mp z).2 d (by omega) hd⟩, fun z => e2.mpr ⟨rfl, fun e _ he => z.2 e he⟩⟩
  · rw [if_neg q]
    exact ⟨false, rfl, fun z => absurd z (by decide), fun z => absurd (by rw [← z.1, ha]) q⟩
theorem ll44 {M : Mem} {p : Nat} {k11 : Int32 → Mem → Option Mem} (hVM : VM σ M) (hN : wN σ ≤ 400) (hk : ∀ v, v < wN σ → wA σ v < 40) (hs : ∀ i, i < wN σ → M.1 38 i = nI (sq i) ∧ sq i < wN σ) :
    ∀ r i f, i + r = wN σ → r < f → p < i → (∀ j, p < j → j < i → goO σ sq p j) → ∃ e, f_X12_layLines_44 k11 f (nI i) (nI p) M = k11 (nI e) M ∧ p < e ∧ e ≤ wN σ ∧ (∀ j, p < j → j < e → goO σ sq p j) ∧ (e < wN σ → ¬ goO σ sq p e) := by
  intro r
  induction r with
  | zero =>
    intro i f hi hf hp hg
    obtain ⟨f, rfl⟩ : ∃ z, f = z + 1 := ⟨f - 1, by omega⟩
    rw [f_X12_layLines_44, hVM.1, if_pos (nI_le (by omega) (by omega))]
    exact ⟨i, rfl, hp, by omega, hg, fun z => by omega⟩
  | succ r ih =>
    intro i f hi hf hp hg
    obtain ⟨f, rfl⟩ : ∃ z, f = z + 1 := ⟨f - 1, by omega⟩
    have al : wA σ (sq (i - 1)) = wA σ (sq p) := by
      have := act_line (σ := σ) (sq := sq) (p := p) (i - 1 - p) (fun j a b => hg j a (by omega))
      rw [show p + (i - 1 - p) = i - 1 by omega] at this
      exact this
    obtain ⟨b, e1, e2⟩ := go_m (sq := sq) hVM hN hk hs hp (by omega) al
    rw [f_X12_layLines_44, hVM.1, if_neg (nI_ge (by omega) (by omega)), e1, bq_s, nI_1]
    cases b with
    | true =>
      rw [bT]
      exact ih (i + 1) f (by omega) (by omega) (by omega) (fun j a b => by
        by_cases z : j = i
        · rw [z]; exact e2.mp rfl
        · exact hg j a (by omega))
    | false =>
      rw [bF]
      exact ⟨i, rfl, hp, by omega, hg, fun _ z => absurd (e2.mpr z) (by decide)⟩
def On6 (M M' : Mem) : Prop := (∀ c, c ≠ 44 → c ≠ 116 → M'.1 c = M.1 c) ∧ M'.2 = M.2
theorem VM_6 {M M' : Mem} (h : VM σ M) (g : On6 M M') : VM σ M' := ⟨by rw [g.1 106 (by decide) (by decide)]; exact h.1, fun v hv => by rw [g.1 23 (by decide) (by decide)]; exact h.2.1 v hv, fun j hj => by rw [g.2]; exact h.2.2 j hj⟩
theorem ll11 (hVM : VM σ M0) (hN : wN σ ≤ 400) (hk : ∀ v, v < wN σ → wA σ v < 40) (hs : ∀ i, i < wN σ → M0.1 38 i = nI (sq i) ∧ sq i < wN σ) :
    ∀ r p l f M, wN σ ≤ p + r → r < f → On6 M0 M → M.1 116 0 = nI l → BL σ sq l p (M.1 44) → p ≤ wN σ → ∃ M', f_X12_layLines_11 f (nI p) M = some M' ∧ On6 M0 M' ∧ BW σ sq (M'.1 116 0) (M'.1 44) := by
  have fin : ∀ l p f M, On6 M0 M → M.1 116 0 = nI l → BL σ sq l p (M.1 44) → p = wN σ → ∃ M', f_X12_layLines_11 (f + 1) (nI p) M = some M' ∧ On6 M0 M' ∧ BW σ sq (M'.1 116 0) (M'.1 44) := by
    intro l p f M hO h122 hB hp
    subst hp
    have hle := BL_le hB
    rw [f_X12_layLines_11, (VM_6 hVM hO).1, if_pos (nI_le (by omega) (by omega)), h122, ck_nI (by omega) (by omega), nI_clamp (by omega)]
    refine ⟨_, rfl, ⟨fun c x1 x2 => by rw [sI_n x1]; exact hO.1 c x1 x2, hO.2⟩, ?_⟩
    rw [sI_n (by decide), h122, sI_e]
    exact BL_W hB
  intro r
  induction r with
  | zero =>
    intro p l f M hr hf hO h122 hB hp
    obtain ⟨f, rfl⟩ : ∃ z, f = z + 1 := ⟨f - 1, by omega⟩
    exact fin l p f M hO h122 hB (by omega)
  | succ r ih =>
    intro p l f M hr hf hO h122 hB hp
    obtain ⟨f, rfl⟩ : ∃ z, f = z + 1 := ⟨f - 1, by omega⟩
    have hle := BL_le hB
    by_cases q : wN σ ≤ p
    · exact fin l p f M hO h122 hB (by omega)
    · rw [f_X12_layLines_11, (VM_6 hVM hO).1, if_neg (nI_ge (by omega) (by omega)), h122, ck_nI (by omega) (by omega), nI_clamp (by omega), sI_n (by decide), h122, nI_1, nI_1]
      have hO2 : On6 M0 (sI (sI M 44 l (nI p)) 116 0 (nI (l + 1))) := ⟨fun c x1 x2 => by rw [sI_n x2, sI_n x1]; exact hO.1 c x1 x2, hO.2⟩
      obtain ⟨e, e1, e2, e3, e4, e5⟩ := ll44 (M := sI (sI M 44 l (nI p)) 116 0 (nI (l + 1))) (sq := sq) (p := p) (k11 := f_X12_layLines_11 f) (VM_6 hVM hO2) hN hk (by rw [hO2.1 38 (by decide) (by decide)]; exact hs) (wN σ - (p + 1)) (p + 1) 100000 (by omega) (by omega) (by omega) (fun j a b => by omega)
      rw [e1]
      refine ih e (l + 1) f _ (by omega) (by omega) hO2 (by rw [sI_e, pk_us]) ?_ e3
      rw [sI_n (by decide), sI_e]
      exact BL_s hB e2 e3 e4 e5
end
section
variable {ns nn na nr nk : Nat} {Mc Mm : Mem}
theorem an_inj (h : RelN ns nn na nr nk Mc Mm) : ∀ a b, a < na → b < na → Mc.1 16 a = Mc.1 16 b → a = b := by
  intro a b ha hb e
  have hna : na ≤ 12 := h.2.1.2.2.2.2.2.1
  have C := h.2.1.2.2.2.2.2.2.2.2.2.2.2
  rcases Nat.lt_trichotomy a b with z | z | z
  · have := C.2.2 a b z hb; rw [e] at this; omega
  · exact z
  · have := C.2.2 b a z ha; rw [e] at this; omega
def LFr (M M' : Mem) : Prop := (∀ c, c ≠ 57 → c ≠ 58 → c ≠ 59 → c ≠ 117 → c ≠ 62 → c ≠ 122 → c ≠ 123 → M'.1 c = M.1 c) ∧ (∀ c, c ≠ 56 → M'.2.1 c = M.2.1 c) ∧ M'.2.2 = M.2.2
theorem parts_c (h : RelN ns nn na nr nk Mc Mm) (h113 : zb (Mc.1 113 0) = true) (h112 : zb (Mc.1 112 0) = false) :
    ∃ Mc1, f_X10_partLines Mc = some Mc1 ∧ RelN ns nn na nr nk Mc1 Mm ∧ LFr Mc Mc1 ∧ QW (wN (wkA (pgM nn Mm))) (ahd (Mm.1 30) (Mm.1 31) (wkA (pgM nn Mm))) (Mc1.1 57) (Mc1.1 59) ∧ BW (wkA (pgM nn Mm)) (fun i => cN_ (Mc1.1 57 i)) (Mc1.1 122 0) (Mc1.1 62) := by
  unfold f_X10_partLines
  by_cases q : zb (Mc.1 123 0) = true
  · have h8 := h.2.2.2.2.2.2.2
    have g := h8.2.2.2.2.2 q
    rw [if_pos q]
    exact ⟨Mc, rfl, h, ⟨fun _ _ _ _ _ _ _ _ => rfl, fun _ _ => rfl, rfl⟩, (h8.2.2.2.1 g.1).2.2, g.2⟩
  · rw [if_neg q]
    obtain ⟨M1, a1, a2, a3, a4, a5⟩ := arranges h h113 h112
    have e113 : zb (M1.1 113 0) = true := by rw [a3.1 113 (by decide) (by decide) (by decide) (by decide)]; exact h113
    have e112 : zb (M1.1 112 0) = false := by rw [a3.1 112 (by decide) (by decide) (by decide) (by decide)]; exact h112
    have h8 := a2.2.2.2.2.2.2.2
    have hV := (h8.1 e113).2 (by rw [← (h8.1 e113).1]; exact e112)
    have hna : na ≤ 12 := h.2.1.2.2.2.2.2.1
    rw [a1, bm_s]
    have f0 : On5 M1 (sI M1 122 0 0) := ⟨fun c _ x _ => sI_n x, rfl⟩
    obtain ⟨M2, b1, b2, b3, b4⟩ := pl_c (M0 := M1) (σ := wkA (pgM nn Mm)) (sq := fun i => cN_ (M1.1 57 i)) hV hna (an_inj a2) (wk40 a2) (fun i hi => ⟨(a5.1 i hi).1, (a5.1 i hi).2.1⟩) (wN (wkA (pgM nn Mm))) 0 0 100000 (sI M1 122 0 0) (by omega) (by have := hV.2.1; omega) f0 (by rw [sI_e, pk_us]; rfl) ⟨fun _ => 0, rfl, rfl, fun j hj => absurd hj (by omega), fun j hj => absurd hj (by omega)⟩ (by omega)
    have b1 : f_X10_partLines_21 100000 0 0 (sI M1 122 0 0) = some M2 := b1
    rw [b1]
    have g : ∀ c, c ≠ 62 → c ≠ 122 → c ≠ 123 → M2.1 c = M1.1 c := b2.1
    have e57 : M2.1 57 = M1.1 57 := g 57 (by decide) (by decide) (by decide)
    have e59 : M2.1 59 = M1.1 59 := g 59 (by decide) (by decide) (by decide)
    rw [← e57] at b4
    refine ⟨M2, rfl, RelN_fr a2 ⟨fun c z => by unfold cRl at z; exact g c (by omega) (by omega) (by omega), by rw [b2.2], by rw [b2.2], by rw [b2.2]⟩ (MFr_r Mm) ?_, ⟨fun c x1 x2 x3 x4 x5 x6 x7 => by rw [g c x5 x6 x7]; exact a3.1 c x1 x2 x3 x4, fun c x => by rw [b2.2]; exact a3.2.1 c x, by rw [b2.2]; exact a3.2.2⟩, by rw [e57, e59]; exact a5, b4⟩
    unfold R8'
    rw [g 16 (by decide) (by decide) (by decide), g 11 (by decide) (by decide) (by decide), g 14 (by decide) (by decide) (by decide), g 110 (by decide) (by decide) (by decide), g 112 (by decide) (by decide) (by decide), g 113 (by decide) (by decide) (by decide), g 114 (by decide) (by decide) (by decide), g 115 (by decide) (by decide) (by decide), g 116 (by decide) (by decide) (by decide), g 117 (by decide) (by decide) (by decide), g 118 (by decide) (by decide) (by decide), g 119 (by decide) (by decide) (by decide), g 120 (by decide) (by decide) (by decide), g 121 (by decide) (by decide) (by decide), g 35 (by decide) (by decide) (by decide), b2.2, g 41 (by decide) (by decide) (by decide), g 44 (by decide) (by decide) (by decide), g 45 (by decide) (by decide) (by decide), g 46 (by decide) (by decide) (by decide), g 47 (by decide) (by decide) (by decide), e59]
    rw [e57] at b4 ⊢
    exact ⟨h8.1, h8.2.1, h8.2.2.1, h8.2.2.2.1, h8.2.2.2.2.1, fun _ => ⟨a4, b4⟩⟩
theorem lines_m (h : RelN ns nn na nr nk Mc Mm) (hVM : VM (wkA (pgM nn Mm)) Mm) (hV : VW na (Mc.1 16) (wkA (pgM nn Mm)) (Mc.1 110 0) (Mc.1 35) (Mc.2.1 36)) :
    ∃ Mm1, f_X12_layLines Mm = some Mm1 ∧ RelN ns nn na nr nk Mc Mm1 ∧ MFr Mm Mm1 ∧ VM (wkA (pgM nn Mm)) Mm1 ∧ QW (wN (wkA (pgM nn Mm))) (ahd (Mm.1 30) (Mm.1 31) (wkA (pgM nn Mm))) (Mm1.1 38) (Mm1.1 39) ∧ BW (wkA (pgM nn Mm)) (fun i => cN_ (Mm1.1 38 i)) (Mm1.1 116 0) (Mm1.1 44) := by
  obtain ⟨M1, a1, a2, a3, a4, a5, a6, a7, a8⟩ := lays h hVM hV
  unfold f_X12_layLines
  rw [a1, bm_s]
  have f0 : On6 M1 (sI M1 116 0 0) := ⟨fun c _ x => sI_n x, rfl⟩
  obtain ⟨M2, b1, b2, b3⟩ := ll11 (M0 := M1) (σ := wkA (pgM nn Mm)) (sq := fun i => cN_ (M1.1 38 i)) a4 hV.2.1 (wk40 h) (fun i hi => ⟨(a5.1 i hi).1, (a5.1 i hi).2.1⟩) (wN (wkA (pgM nn Mm))) 0 0 100000 (sI M1 116 0 0) (by omega) (by have := hV.2.1; omega) f0 (by rw [sI_e, pk_us]; rfl) ⟨fun _ => 0, rfl, rfl, fun j hj => absurd hj (by omega), fun j hj => absurd hj (by omega)⟩ (by omega)
  have b1 : f_X12_layLines_11 100000 0 (sI M1 116 0 0) = some M2 := b1
  rw [b1]
  have hF : MFr M1 M2 := ⟨fun c z => by unfold mRl at z; exact b2.1 c (by omega) (by omega), by rw [b2.2], by rw [b2.2]⟩
  have e38 : M2.1 38 = M1.1 38 := b2.1 38 (by decide) (by decide)
  have e39 : M2.1 39 = M1.1 39 := b2.1 39 (by decide) (by decide)
  rw [← e38] at b3
  exact ⟨M2, rfl, RelN_fr a2 (CFr_r Mc) hF (R8_m a2.2.2.2.2.2.2.2 hF), MFr_t a3 hF, VM_6 a4 b2, by rw [e38, e39]; exact a5, b3⟩
/-- both part the new order into lines -/
theorem lines2 (h : RelN ns nn na nr nk Mc Mm) (h113 : zb (Mc.1 113 0) = true) (h112 : zb (Mc.1 112 0) = false) (hVM : VM (wkA (pgM nn Mm)) Mm) (hV : VW na (Mc.1 16) (wkA (pgM nn Mm)) (Mc.1 110 0) (Mc.1 35) (Mc.2.1 36)) :
    ∃ Mc1 Mm1 L, f_X10_partLines Mc = some Mc1 ∧ f_X12_layLines Mm = some Mm1 ∧ RelN ns nn na nr nk Mc1 Mm1 ∧ VM (wkA (pgM nn Mm)) Mm1 ∧ VW na (Mc1.1 16) (wkA (pgM nn Mm)) (Mc1.1 110 0) (Mc1.1 35) (Mc1.2.1 36) ∧ Mc1.1 122 0 = nI L ∧ Mm1.1 116 0 = nI L ∧ L ≤ wN (wkA (pgM nn Mm)) ∧
      (∀ l, l < L → ∃ s e, s < e ∧ e ≤ wN (wkA (pgM nn Mm)) ∧ Mc1.1 62 l = nI s ∧ Mc1.1 62 (l + 1) = nI e ∧ Mm1.1 44 l = nI s ∧ Mm1.1 44 (l + 1) = nI e) ∧
      (∀ i, i < wN (wkA (pgM nn Mm)) → ∃ u, u < wN (wkA (pgM nn Mm)) ∧ Mc1.1 57 i = nI u ∧ Mm1.1 38 i = nI u) := by
  obtain ⟨M1, a1, a2, a3, a4, a5⟩ := parts_c h h113 h112
  have hV1 : VW na (M1.1 16) (wkA (pgM nn Mm)) (M1.1 110 0) (M1.1 35) (M1.2.1 36) := by
    rw [a3.1 16 (by decide) (by decide) (by decide) (by decide) (by decide) (by decide) (by decide), a3.1 110 (by decide) (by decide) (by decide) (by decide) (by decide) (by decide) (by decide), a3.1 35 (by decide) (by decide) (by decide) (by decide) (by decide) (by decide) (by decide), a3.2.1 36 (by decide)]
    exact hV
  obtain ⟨M2, b1, b2, b3, b4, b5, b6⟩ := lines_m a2 hVM hV1
  have hN := hV.2.1
  have eq := (QW_un hN (Lin_a _ _ _) a4 b5).1
  obtain ⟨L, l1, l2, l3, l4⟩ := BW_un (sq := fun i => cN_ (M1.1 57 i)) (sq' := fun i => cN_ (M2.1 38 i)) hN (fun i hi => by show cN_ (M1.1 57 i) = cN_ (M2.1 38 i); rw [eq i hi]) a5 b6
  refine ⟨M1, M2, L, a1, b1, b2, b4, hV1, l1, l2, l3, fun l hl => ?_, fun i hi => ⟨cN_ (M1.1 57 i), (a4.1 i hi).2.1, (a4.1 i hi).1, by rw [← eq i hi]; exact (a4.1 i hi).1⟩⟩
  obtain ⟨L', c1, c2, _, _, c5⟩ := a5
  have : L' = L := nI_inj (by omega) (by omega) (c1.symm.trans l1)
  subst this
  obtain ⟨s, e, s1, s2, s3, s4, _⟩ := c5 l hl
  exact ⟨s, e, s3, s4, s1, s2, by rw [← l4 l (by omega)]; exact s1, by rw [← l4 (l + 1) (by omega)]; exact s2⟩
theorem fnd_rel (h : RelN ns nn na nr nk Mc Mm) (x : Int64) : RelN ns nn na nr nk (sL Mc 101 0 x) (sL Mm 105 0 x) := by
  obtain ⟨h1, h2, h3, h4, h5, ⟨a1, a2, a3, a4, a5, a6, a7⟩, h7, h8⟩ := h
  exact ⟨h1, h2, h3, h4, h5, ⟨rfl, a2, a3, a4, a5, a6, a7⟩, h7, h8⟩
end
theorem sim_lines : Sim_lines Rel := by
  intro Mc Mm ⟨ns, nn, na, nr, nk, h⟩
  unfold f_X11_lines f_X12_lines
  obtain ⟨Mc1, Mm1, c1, m1, hR, hcF, hmF, hv⟩ := walks h
  rw [c1, m1, bd_s, bd_s]
  cases es : wS (wkA (pgM nn Mm)) with
  | true => exact same_go hR _
  | false =>
    obtain ⟨v1, v2, v3, v4⟩ := hv es
    rw [← MFr_pg hmF nn] at v1 v4
    obtain ⟨Mc2, Mm2, L, x1, x2, x3, x4, x5, x6, x7, x8, x9⟩ := lines2 hR v2 v3 v1 v4
    rw [bF, bF, x1, x2, bm_s, bm_s, x6, x7]
    exact same_go x3 _
theorem sim_written : Sim_written Rel := by
  intro Mc Mm y0 y1 ⟨ns, nn, na, nr, nk, h⟩
  unfold f_X11_written f_X12_written
  rw [in_w 0 9, wi_n y1 (b := 9) (m := 9) (n := 10) rfl rfl (by decide)]
  cases g : inN y1 10 with
  | false => exact same_go h _
  | true =>
    obtain ⟨d, hd, rfl⟩ := inN_t g
    obtain ⟨Mc1, Mm1, c1, m1, hR, hcF, hmF, hv⟩ := walks h
    simp only [bq_s, bT, if_true, c1, m1, bd_s]
    have hna : na ≤ 12 := hR.2.1.2.2.2.2.2.1
    cases es : wS (wkA (pgM nn Mm)) with
    | true => exact same_go hR _
    | false =>
      obtain ⟨v1, v2, v3, v4⟩ := hv es
      rw [← MFr_pg hmF nn] at v1 v4
      have hN := v4.2.1
      obtain ⟨Mc2, Mm2, L, x1, x2, x3, x4, x5, x6, x7, x8, x9, x10⟩ := lines2 hR v2 v3 v1 v4
      rw [bF, bF, x1, x2, bm_s, bm_s, x6, x7, in_p _ (by omega), wi_p _ (by omega)]
      cases e0 : inN y0 L with
      | false => exact same_go x3 _
      | true =>
        obtain ⟨l, hl, rfl⟩ := inN_t e0
        obtain ⟨s, e, s1, s2, s3, s4, s5, s6⟩ := x9 l hl
        obtain ⟨u, u1, u2, u3⟩ := x10 s (by omega)
        have fg : ∀ x : Int64, ∃ (r : Int32) (Mc3 Mm3 : Mem), bq (some x) (fun r16 => some ((1 : Int32), sL Mc2 101 0 r16)) = some (r, Mc3) ∧ some ((1 : Int32), sL Mm2 105 0 x) = some (r, Mm3) ∧ Rel Mc3 Mm3 := fun x => ⟨_, _, _, rfl, rfl, ns, nn, na, nr, nk, fnd_rel x3 x⟩
        unfold f_X11_tellLine f_X12_written_84
        rw [bq_s, bq_s, bT, bT, nI_1]
        simp only [ck_nI (show l < 401 by omega) (by decide : (401 : Nat) < 2 ^ 31), ck_nI (show l + 1 < 401 by omega) (by decide : (401 : Nat) < 2 ^ 31), nI_clamp (show l < 2 ^ 31 by omega), nI_clamp (show l + 1 < 2 ^ 31 by omega), s3, s4, s5, s6, ck_nI (show s < 401 by omega) (by decide : (401 : Nat) < 2 ^ 31), ck_nI (show s < 400 by omega) (by decide : (400 : Nat) < 2 ^ 31), nI_clamp (show s < 2 ^ 31 by omega), u2, u3, aN_eq x5 hna u1, bq_s]
        by_cases q0 : d = 0
        · subst q0
          rw [if_pos (show nI 0 = 0 from rfl), if_pos (show nI 0 = 0 from rfl), if_pos (show nI 0 = 0 from rfl), ck_nI (by omega) (by omega), nI_clamp (by omega), x4.2.1 u u1]
          exact fg _
        · have nz : ¬ nI d = 0 := fun y => q0 (nI_inj (by omega) (by omega) (show nI d = nI 0 from y))
          rw [if_neg nz, if_neg nz]
          by_cases q9 : d = 9
          · subst q9
            rw [if_pos (show nI 9 = 9 from rfl), if_pos (show nI 9 = 9 from rfl), if_neg nz]
            exact fg _
          · have n9 : ¬ nI d = 9 := fun y => q9 (nI_inj (by omega) (by omega) (show nI d = nI 9 from y))
            rw [if_neg n9, if_neg n9, pk_sub (show s ≤ e by omega)]
            by_cases q5 : 5 ≤ d
            · rw [if_pos (show 4 < nI d from nI_lt (a := 4) (by omega) (by omega)), if_pos (show 5 ≤ nI d from nI_le (a := 5) q5 (by omega))]
              by_cases ql : e - s = 1
              · rw [if_neg (show ¬ 2 ≤ nI (e - s) from nI_ge (b := 2) (by omega) (by omega)), if_pos (show nI (e - s) = 1 by rw [ql]; rfl)]
                exact fg _
              · obtain ⟨w, w1, w2, w3⟩ := x10 (s + 1) (by omega)
                rw [if_pos (show 2 ≤ nI (e - s) from nI_le (a := 2) (by omega) (by omega)), if_neg (show ¬ nI (e - s) = 1 from fun y => ql (nI_inj (by omega) (by omega) (show nI (e - s) = nI 1 from y))), nI_1, ck_nI (by omega) (by omega), ck_nI (by omega) (by omega), nI_clamp (by omega), w2, w3, i_n4, i_n5, i_n1, pk_sub (show 4 ≤ d by omega), pk_sub (show 1 ≤ d - 4 by omega), lt_eq x5 w1 (by omega), lt_eq x5 u1 (by omega), pk_mul, pk_mul, nI_add, nI_add, pk_sub (show 5 ≤ 4 * w + d by omega), pk_sub (show 5 ≤ 4 * u + d by omega), ck_nI (by omega) (by omega), ck_nI (by omega) (by omega), nI_clamp (by omega), nI_clamp (by omega), x4.2.2 _ (by omega), x4.2.2 _ (by omega), bq_s, bq_s, show 4 * w + d - 5 = w * 4 + (d - 4 - 1) by omega, show 4 * u + d - 5 = u * 4 + (d - 4 - 1) by omega]
                exact fg _
            · rw [if_neg (show ¬ 4 < nI d from nI_nlt (a := 4) (by omega) (by omega)), if_neg (show ¬ 5 ≤ nI d from nI_ge (b := 5) (by omega) (by omega)), i_n1, pk_sub (show 1 ≤ d by omega), lt_eq x5 u1 (by omega), i_n4, pk_mul, nI_add, pk_sub (show 1 ≤ 4 * u + d by omega), ck_nI (by omega) (by omega), nI_clamp (by omega), x4.2.2 _ (by omega), bq_s, show 4 * u + d - 1 = u * 4 + (d - 1) by omega]
              exact fg _
