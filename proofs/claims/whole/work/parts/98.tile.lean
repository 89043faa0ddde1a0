/-! the pure half: tile -/
def FI (h6 : Nat → Int32) (q d i : Nat) : Prop := i < q ∧ h6 i = nI d ∧ ∀ i', i' < i → h6 i' ≠ nI d
abbrev hC (M : Mem) (a i c : Nat) : Int32 := M.1 28 ((a * 16 + i) * 7 + c)
abbrev hM (N : Mem) (k i c : Nat) : Int32 := N.1 31 (7 * (16 * k + i) + c)
theorem FI_ex {h6 : Nat → Int32} {q d : Nat} (h : ∃ i, i < q ∧ h6 i = nI d) : ∃ i, FI h6 q d i := by
  obtain ⟨i, ⟨i1, i2⟩, i3⟩ := pk_least (fun i => i < q ∧ h6 i = nI d) h
  exact ⟨i, i1, i2, fun i' hi' z => i3 i' hi' ⟨by omega, z⟩⟩
theorem lrC {M : Mem} {a q d i : Nat} (ha : a < 12) (hq : q ≤ 16) (h29 : M.1 29 a = nI q) (h : FI (fun i => hC M a i 6) q d i) : f_X7_loopRow M (nI a) (nI d) = some (nI ((a * 16 + i) * 7)) := by
  obtain ⟨h1, h2, h3⟩ := h
  have main : ∀ r x f, x + r = i → r < f → f_X7_loopRow_2 f (nI a) (nI d) (nI x) M = some (nI ((a * 16 + i) * 7)) := by
    intro r
    induction r with
    | zero =>
      intro x f hx hf
      obtain ⟨f, rfl⟩ : ∃ z, f = z + 1 := ⟨f - 1, by omega⟩
      have : x = i := by omega
      subst this
      rw [f_X7_loopRow_2, ck_nI ha (by omega), nI_clamp (by omega), h29, if_neg (nI_ge (by omega) (by omega))]
      unfold f_X7_at
      rw [bq_s, i_n16, i_n7, pk_mul, nI_add, pk_mul, i_n6, nI_add, ck_nI (by omega) (by omega), nI_clamp (by omega), if_pos h2]
    | succ r ih =>
      intro x f hx hf
      obtain ⟨f, rfl⟩ : ∃ z, f = z + 1 := ⟨f - 1, by omega⟩
      rw [f_X7_loopRow_2, ck_nI ha (by omega), nI_clamp (by omega), h29, if_neg (nI_ge (by omega) (by omega))]
      unfold f_X7_at
      rw [bq_s, i_n16, i_n7, pk_mul, nI_add, pk_mul, i_n6, nI_add, ck_nI (by omega) (by omega), nI_clamp (by omega), if_neg (h3 x (by omega)), nI_1]
      exact ih (x + 1) f (by omega) (by omega)
  exact main i 0 100000 (by omega) (by omega)
theorem lrM {N : Mem} {k q d i : Nat} (hk : k < 40) (hq : q ≤ 16) (h30 : N.1 30 k = nI q) (h : FI (fun i => hM N k i 6) q d i) : f_X12_loopRow N (nI k) (nI d) = some (nI i) := by
  obtain ⟨h1, h2, h3⟩ := h
  have main : ∀ r x f, x + r = i → r < f → f_X12_loopRow_2 f (nI k) (nI d) (nI x) N = some (nI i) := by
    intro r
    induction r with
    | zero =>
      intro x f hx hf
      obtain ⟨f, rfl⟩ : ∃ z, f = z + 1 := ⟨f - 1, by omega⟩
      have : x = i := by omega
      subst this
      rw [f_X12_loopRow_2, ck_nI hk (by omega), nI_clamp (by omega), h30, if_neg (nI_ge (by omega) (by omega))]
      unfold f_X12_rowAt
      rw [bq_s, i_n16, i_n7, pk_mul, nI_add, pk_mul, i_n6, nI_add, ck_nI (by omega) (by omega), nI_clamp (by omega), if_pos h2]
    | succ r ih =>
      intro x f hx hf
      obtain ⟨f, rfl⟩ : ∃ z, f = z + 1 := ⟨f - 1, by omega⟩
      rw [f_X12_loopRow_2, ck_nI hk (by omega), nI_clamp (by omega), h30, if_neg (nI_ge (by omega) (by omega))]
      unfold f_X12_rowAt
      rw [bq_s, i_n16, i_n7, pk_mul, nI_add, pk_mul, i_n6, nI_add, ck_nI (by omega) (by omega), nI_clamp (by omega), if_neg (h3 x (by omega)), nI_1]
      exact ih (x + 1) f (by omega) (by omega)
  exact main i 0 100000 (by omega) (by omega)
abbrev Rw : Type := Nat → Nat → Int32
def TLr (g H : Rw) (qq o n : Nat) : Prop := (∀ i, i < o → ∀ c, c < 7 → H i c = g i c) ∧ ∀ i, o ≤ i → i < qq → ∀ c, c < 7 → H (i + n) c = g i c
def TLn (H : Rw) (o m : Nat) : Prop := ∀ j, j < m → H (o + j) 6 = -9
def TLw (g H : Rw) (fr : Nat → Nat) (o m : Nat) (w : Int32) : Prop := ∀ j, j < m → (∀ c, c < 5 → H (o + j) c = g (fr j) c) ∧ H (o + j) 5 = g (fr j) 5 * w
def sh (o n i : Nat) : Nat := if i < o then i else i + n
theorem FI_sh {g H : Rw} {qq o n d i : Nat} (hd : d < 100) (h : FI (fun i => g i 6) qq d i) (hr : TLr g H qq o n) (hn : TLn H o n) : FI (fun i => H i 6) (qq + n) d (sh o n i) ∧ ∀ c, c < 7 → H (sh o n i) c = g i c := by
  obtain ⟨h1, h2, h3⟩ := h
  have e : ∀ c, c < 7 → H (sh o n i) c = g i c := fun c hc => by
    unfold sh
    by_cases q : i < o
    · rw [if_pos q]; exact hr.1 i q c hc
    · rw [if_neg q]; exact hr.2 i (by omega) h1 c hc
  refine ⟨⟨?_, by show H (sh o n i) 6 = nI d; rw [e 6 (by omega)]; exact h2, fun i' hi' => ?_⟩, e⟩
  · unfold sh
    by_cases q : i < o
    · rw [if_pos q]; omega
    · rw [if_neg q]; omega
  · show H i' 6 ≠ nI d
    unfold sh at hi'
    by_cases q : i' < o
    · rw [hr.1 i' q 6 (by omega)]
      refine h3 i' ?_
      by_cases z : i < o
      · rw [if_pos z] at hi'; exact hi'
      · omega
    · have z : ¬ i < o := fun z => by rw [if_pos z] at hi'; omega
      rw [if_neg z] at hi'
      by_cases y : i' < o + n
      · have := hn (i' - o) (by omega)
        rw [show o + (i' - o) = i' by omega] at this
        rw [this]
        exact fun x => nN9 (by omega) x.symm
      · have := hr.2 (i' - n) (by omega) (by omega) 6 (by omega)
        rw [show i' - n + n = i' by omega] at this
        rw [this]
        exact h3 (i' - n) (by omega)
def CT (a : Nat) (M M' : Mem) : Prop := (∀ c, c ≠ 28 → c ≠ 29 → M'.1 c = M.1 c) ∧ M'.2 = M.2 ∧ (∀ z, ¬ (a * 112 ≤ z ∧ z < a * 112 + 112) → M'.1 28 z = M.1 28 z) ∧ ∀ a', a' ≠ a → M'.1 29 a' = M.1 29 a'
def MT (k : Nat) (N N' : Mem) : Prop := (∀ c, c ≠ 30 → c ≠ 31 → N'.1 c = N.1 c) ∧ N'.2 = N.2 ∧ (∀ z, ¬ (k * 112 ≤ z ∧ z < k * 112 + 112) → N'.1 31 z = N.1 31 z) ∧ ∀ k', k' ≠ k → N'.1 30 k' = N.1 30 k'
theorem CT_r (a : Nat) (M : Mem) : CT a M M := ⟨fun _ _ _ => rfl, rfl, fun _ _ => rfl, fun _ _ => rfl⟩
theorem MT_r (a : Nat) (M : Mem) : MT a M M := ⟨fun _ _ _ => rfl, rfl, fun _ _ => rfl, fun _ _ => rfl⟩
theorem CT_t {a : Nat} {M M1 M2 : Mem} (h : CT a M M1) (g : CT a M1 M2) : CT a M M2 := ⟨fun c x y => (g.1 c x y).trans (h.1 c x y), g.2.1.trans h.2.1, fun z y => (g.2.2.1 z y).trans (h.2.2.1 z y), fun z y => (g.2.2.2 z y).trans (h.2.2.2 z y)⟩
theorem MT_t {a : Nat} {M M1 M2 : Mem} (h : MT a M M1) (g : MT a M1 M2) : MT a M M2 := ⟨fun c x y => (g.1 c x y).trans (h.1 c x y), g.2.1.trans h.2.1, fun z y => (g.2.2.1 z y).trans (h.2.2.1 z y), fun z y => (g.2.2.2 z y).trans (h.2.2.2 z y)⟩
theorem CT_s {a z : Nat} {M : Mem} {x : Int32} (h : a * 112 ≤ z ∧ z < a * 112 + 112) : CT a M (sI M 28 z x) := ⟨fun c p q => sI_n p, rfl, fun y hy => by rw [sI_e, pk_un (fun e => hy (by rw [e]; exact h))], fun y _ => by rw [sI_n (by decide)]⟩
theorem MT_s {a z : Nat} {M : Mem} {x : Int32} (h : a * 112 ≤ z ∧ z < a * 112 + 112) : MT a M (sI M 31 z x) := ⟨fun c p q => sI_n q, rfl, fun y hy => by rw [sI_e, pk_un (fun e => hy (by rw [e]; exact h))], fun y _ => by rw [sI_n (by decide)]⟩
section
variable {a qq o n : Nat} {g : Rw} {fr : Nat → Nat} {w : Int32}
/-- the class makes room -/
theorem op_c {M : Mem} (ha : a < 12) (h29 : M.1 29 a = nI qq) (ho : o < qq) (hq : qq + n ≤ 16) : ∃ M', f_X7_openRows M (nI a) (nI ((a * 16 + o) * 7)) (nI n) = some M' ∧ CT a M M' ∧ M'.1 29 a = nI (qq + n) ∧ TLr (hC M a) (hC M' a) qq o n := by
  unfold f_X7_openRows f_X7_at
  rw [ck_nI ha (by omega), nI_clamp (by omega), h29, bq_s, i_n16, i_n7]
  simp only [pk_mul, nI_add]
  rw [pk_sub (by omega), ca_nI (by omega) (by omega) (by decide) (by decide), ck_nI ha (by omega), ck_nI ha (by omega), nI_clamp (by omega), nI_clamp (by omega), nI_clamp (by omega), yI_n (by decide), h29, nI_add]
  refine ⟨_, rfl, ⟨fun c x y => by rw [sI_n y, yI_n x], rfl, fun z hz => ?_, fun a' h => by rw [sI_e, pk_un h, yI_n (by decide)]⟩, by rw [sI_e, pk_us], fun i hi c hc => ?_, fun i hi hi' c hc => ?_⟩
  · rw [sI_n (by decide), yI_e, pk_cpy_out (by omega)]
  · show (sI _ 29 a _).1 28 ((a * 16 + i) * 7 + c) = _
    rw [sI_n (by decide), yI_e, pk_cpy_out (by omega)]
  · show (sI _ 29 a _).1 28 ((a * 16 + (i + n)) * 7 + c) = _
    rw [sI_n (by decide), yI_e, pk_cpy_in (by omega) (by omega)]
    exact ix (by omega)
theorem TLr_c {H H' : Rw} (h : TLr g H qq o n) (e : ∀ i, (i < o ∨ o + n ≤ i) → ∀ c, c < 7 → H' i c = H i c) : TLr g H' qq o n :=
  ⟨fun i hi c hc => by rw [e i (.inl hi) c hc]; exact h.1 i hi c hc, fun i h1 h2 c hc => by rw [e (i + n) (.inr (by omega)) c hc]; exact h.2 i h1 h2 c hc⟩
theorem cl_c {k14 : Int32 → Int32 → Int32 → Int32 → Int32 → Mem → Option Mem} {x1 x4 : Int32} (ha : a < 12) (ho : o + n ≤ 16) : ∀ r m f M, m + r = n → r < f → TLr g (hC M a) qq o n → TLn (hC M a) o m →
    ∃ M', f_X3_tileRows_81 k14 f x1 (nI n) w x4 (nI a) (nI ((a * 16 + o) * 7)) (nI m) M = f_X3_tileRows_117 k14 100000 x1 (nI n) w x4 (nI a) (nI ((a * 16 + o) * 7)) 0 M' ∧ CT a M M' ∧ M'.1 29 a = M.1 29 a ∧ TLr g (hC M' a) qq o n ∧ TLn (hC M' a) o n := by
  intro r
  induction r with
  | zero =>
    intro m f M hm hf hr hn
    obtain ⟨f, rfl⟩ : ∃ z, f = z + 1 := ⟨f - 1, by omega⟩
    have : m = n := by omega
    subst this
    rw [f_X3_tileRows_81, if_pos (nI_le (by omega) (by omega))]
    exact ⟨M, rfl, CT_r a M, rfl, hr, hn⟩
  | succ r ih =>
    intro m f M hm hf hr hn
    obtain ⟨f, rfl⟩ : ∃ z, f = z + 1 := ⟨f - 1, by omega⟩
    rw [f_X3_tileRows_81, if_neg (nI_ge (by omega) (by omega)), i_n7, i_n6, pk_mul, nI_add, nI_add, ck_nI (by omega) (by omega), nI_clamp (by omega), nI_1, show (a * 16 + o) * 7 + m * 7 + 6 = (a * 16 + (o + m)) * 7 + 6 by omega]
    obtain ⟨M', e1, e2, e3, e4, e5⟩ := ih (m + 1) f (sI M 28 ((a * 16 + (o + m)) * 7 + 6) (-9)) (by omega) (by omega) (TLr_c hr (fun i hi c hc => by show (sI M 28 _ _).1 28 _ = _; rw [sI_e, pk_un (by omega)])) (fun j hj => by
      show (sI M 28 _ _).1 28 ((a * 16 + (o + j)) * 7 + 6) = -9
      by_cases z : j = m
      · rw [z, sI_e, pk_us]
      · rw [sI_e, pk_un (by omega)]; exact hn j (by omega))
    exact ⟨M', e1, CT_t (CT_s (by omega)) e2, by rw [e3, sI_n (by decide)], e4, e5⟩
/-- the class widens -/
theorem wd_c {k14 : Int32 → Int32 → Int32 → Int32 → Int32 → Mem → Option Mem} {x1 : Int32} {d : Nat} (ha : a < 12) (hq : qq + n ≤ 16) (ho : o < qq) (hd : d + n ≤ 4) (hfr : ∀ j, j < n → FI (fun i => g i 6) qq (d + j) (fr j)) : ∀ r j f M, j + r = n → r < f → M.1 29 a = nI (qq + n) → TLr g (hC M a) qq o n → TLn (hC M a) o n → TLw g (hC M a) fr o j w →
    ∃ M', f_X3_tileRows_117 k14 f x1 (nI n) w (nI d) (nI a) (nI ((a * 16 + o) * 7)) (nI j) M = k14 x1 (nI n) w (nI d) (nI a + 1) M' ∧ CT a M M' ∧ M'.1 29 a = nI (qq + n) ∧ TLr g (hC M' a) qq o n ∧ TLn (hC M' a) o n ∧ TLw g (hC M' a) fr o n w := by
  intro r
  induction r with
  | zero =>
    intro j f M hj hf h29 hr hn hw
    obtain ⟨f, rfl⟩ : ∃ z, f = z + 1 := ⟨f - 1, by omega⟩
    have : j = n := by omega
    subst this
    rw [f_X3_tileRows_117, if_pos (nI_le (by omega) (by omega))]
    exact ⟨M, rfl, CT_r a M, h29, hr, hn, hw⟩
  | succ r ih =>
    intro j f M hj hf h29 hr hn hw
    obtain ⟨f, rfl⟩ : ∃ z, f = z + 1 := ⟨f - 1, by omega⟩
    obtain ⟨s1, s2⟩ := FI_sh (by omega) (hfr j (by omega)) hr hn
    have lr := lrC ha hq h29 s1
    have sl : sh o n (fr j) < 16 := by have := s1.1; omega
    have ne : sh o n (fr j) ≠ o + j := fun z => by
      have x := s1.2.1
      have x : hC M a (sh o n (fr j)) 6 = nI (d + j) := x
      rw [z, hn j (by omega)] at x
      exact nN9 (by omega) x.symm
    generalize hs : sh o n (fr j) = s at *
    have e5 : (5 : Int32).toNatClampNeg = 5 := by decide
    rw [f_X3_tileRows_117, if_neg (nI_ge (by omega) (by omega))]
    unfold f_X3_widen
    rw [nI_add, lr, bq_s, if_pos (nI_pos' (by omega)), i_n7, pk_mul, nI_add, i_n5, ca_nI (by omega) (by omega) (by decide) (by decide), nI_add, nI_add, ck_nI (by omega) (by omega), ck_nI (by omega) (by omega), nI_clamp (by omega), nI_clamp (by omega), nI_clamp (by omega), nI_clamp (by omega), nI_clamp (by omega), bm_s, nI_1, show (a * 16 + o) * 7 + j * 7 = (a * 16 + (o + j)) * 7 by omega, yI_e, pk_cpy_out (show (a * 16 + s) * 7 + 5 < (a * 16 + (o + j)) * 7 ∨ (a * 16 + (o + j)) * 7 + 5 ≤ (a * 16 + s) * 7 + 5 by omega)]
    have eM : ∀ i c, c < 7 → hC (sI (yI M 28 ((a * 16 + s) * 7) 28 ((a * 16 + (o + j)) * 7) 5) 28 ((a * 16 + (o + j)) * 7 + 5) (M.1 28 ((a * 16 + s) * 7 + 5) * w)) a i c = if i = o + j then (if c < 5 then hC M a s c else if c = 5 then hC M a s 5 * w else hC M a i c) else hC M a i c := by
      intro i c hc
      show (sI _ 28 _ _).1 28 ((a * 16 + i) * 7 + c) = _
      rw [sI_e]
      by_cases z : i = o + j
      · rw [if_pos z]
        by_cases c5 : c < 5
        · rw [if_pos c5, pk_un (by omega), yI_e, pk_cpy_in (by omega) (by omega)]; exact ix (by omega)
        · rw [if_neg c5]
          by_cases c55 : c = 5
          · rw [if_pos c55, c55, z, pk_us]
          · rw [if_neg c55, pk_un (by omega), yI_e, pk_cpy_out (by omega)]
      · rw [if_neg z, pk_un (by omega), yI_e, pk_cpy_out (by omega)]
    have e29 : (sI (yI M 28 ((a * 16 + s) * 7) 28 ((a * 16 + (o + j)) * 7) 5) 28 ((a * 16 + (o + j)) * 7 + 5) (M.1 28 ((a * 16 + s) * 7 + 5) * w)).1 29 a = nI (qq + n) := by rw [sI_n (by decide), yI_n (by decide)]; exact h29
    have ct : CT a M (sI (yI M 28 ((a * 16 + s) * 7) 28 ((a * 16 + (o + j)) * 7) 5) 28 ((a * 16 + (o + j)) * 7 + 5) (M.1 28 ((a * 16 + s) * 7 + 5) * w)) := ⟨fun c x y => by rw [sI_n x, yI_n x], rfl, fun z hz => by rw [sI_e, pk_un (by omega), yI_e, pk_cpy_out (by omega)], fun a' _ => by rw [sI_n (by decide), yI_n (by decide)]⟩
    generalize sI (yI M 28 ((a * 16 + s) * 7) 28 ((a * 16 + (o + j)) * 7) 5) 28 ((a * 16 + (o + j)) * 7 + 5) (M.1 28 ((a * 16 + s) * 7 + 5) * w) = M1 at *
    obtain ⟨M', q1, q2, q3, q4, q5, q6⟩ := ih (j + 1) f M1 (by omega) (by omega) e29 (TLr_c hr (fun i hi c hc => by rw [eM i c hc, if_neg (by omega)])) (fun j' hj' => by
      rw [eM (o + j') 6 (by omega)]
      by_cases z : o + j' = o + j
      · rw [if_pos z, if_neg (by omega), if_neg (by omega)]; exact hn j' hj'
      · rw [if_neg z]; exact hn j' hj') (fun j' hj' => by
      by_cases z : j' = j
      · subst z
        refine ⟨fun c hc => ?_, ?_⟩
        · rw [eM _ c (by omega), if_pos rfl, if_pos hc]; exact s2 c (by omega)
        · rw [eM _ 5 (by omega), if_pos rfl, if_neg (by omega), if_pos rfl, s2 5 (by omega)]
      · refine ⟨fun c hc => ?_, ?_⟩
        · rw [eM _ c (by omega), if_neg (by omega)]; exact (hw j' (by omega)).1 c hc
        · rw [eM _ 5 (by omega), if_neg (by omega)]; exact (hw j' (by omega)).2)
    exact ⟨M', q1, CT_t ct q2, q3, q4, q5, q6⟩
end
section
variable {k qq o n : Nat} {g : Rw} {fr : Nat → Nat}
/-- the reference moves one row -/
theorem mv43 {k33 : Int32 → Int32 → Int32 → Int32 → Int32 → Int32 → Mem → Option (Bool × Mem)} {x2 x4 x5 : Int32} {i : Nat} (hk : k < 40) (hi : i + n < 16) (hn : 1 ≤ n) : ∀ r c f N, c + r = 7 → r < f →
    ∃ N', f_X12_tiles_43 k33 f (nI k) x2 (nI n) x4 x5 (nI i) (nI c) N = k33 (nI k) x2 (nI n) x4 x5 (nI i + (-1)) N' ∧ MT k N N' ∧ N'.1 30 = N.1 30 ∧ (∀ c', c ≤ c' → c' < 7 → hM N' k (i + n) c' = hM N k i c') ∧ (∀ c', c' < c → hM N' k (i + n) c' = hM N k (i + n) c') ∧ ∀ i', i' ≠ i + n → ∀ c', c' < 7 → hM N' k i' c' = hM N k i' c' := by
  intro r
  induction r with
  | zero =>
    intro c f N hc hf
    obtain ⟨f, rfl⟩ : ∃ z, f = z + 1 := ⟨f - 1, by omega⟩
    rw [f_X12_tiles_43, i_n7, if_pos (nI_le (by omega) (by omega))]
    exact ⟨N, rfl, MT_r k N, rfl, fun c' h1 h2 => absurd h2 (by omega), fun _ _ => rfl, fun _ _ _ _ => rfl⟩
  | succ r ih =>
    intro c f N hc hf
    obtain ⟨f, rfl⟩ : ∃ z, f = z + 1 := ⟨f - 1, by omega⟩
    rw [f_X12_tiles_43, i_n7, if_neg (nI_ge (by omega) (by omega))]
    unfold f_X12_rowAt
    rw [bq_s, bq_s, i_n16, i_n7]
    simp only [pk_mul, nI_add]
    rw [ck_nI (by omega) (by omega), ck_nI (by omega) (by omega), nI_clamp (by omega), nI_clamp (by omega), nI_1]
    have eM : ∀ i' c', c' < 7 → hM (sI N 31 (7 * (16 * k + (i + n)) + c) (N.1 31 (7 * (16 * k + i) + c))) k i' c' = if i' = i + n ∧ c' = c then hM N k i c else hM N k i' c' := by
      intro i' c' hc'
      show (sI N 31 _ _).1 31 (7 * (16 * k + i') + c') = _
      rw [sI_e]
      by_cases z : i' = i + n ∧ c' = c
      · rw [if_pos z, z.1, z.2, pk_us]
      · rw [if_neg z, pk_un (by omega)]
    have mt : MT k N (sI N 31 (7 * (16 * k + (i + n)) + c) (N.1 31 (7 * (16 * k + i) + c))) := MT_s (by omega)
    have e30 : (sI N 31 (7 * (16 * k + (i + n)) + c) (N.1 31 (7 * (16 * k + i) + c))).1 30 = N.1 30 := sI_n (by decide)
    generalize sI N 31 (7 * (16 * k + (i + n)) + c) (N.1 31 (7 * (16 * k + i) + c)) = N1 at *
    obtain ⟨N', q1, q2, q3, q4, q5, q6⟩ := ih (c + 1) f N1 (by omega) (by omega)
    refine ⟨N', q1, MT_t mt q2, q3.trans e30, fun c' h1 h2 => ?_, fun c' h1 => ?_, fun i' h1 c' h2 => ?_⟩
    · by_cases z : c' = c
      · rw [z, q5 c (by omega), eM _ _ (by omega), if_pos ⟨rfl, rfl⟩]
      · rw [q4 c' (by omega) h2, eM _ _ h2, if_neg (by omega)]
    · rw [q5 c' (by omega), eM _ _ (by omega), if_neg (by omega)]
    · rw [q6 i' h1 c' h2, eM _ _ h2, if_neg (by omega)]
theorem mv33 {x2 w : Int32} (hk : k < 40) (hn : 1 ≤ n) (ho : 1 ≤ o) (hq : qq + n ≤ 16) : ∀ r i f N, o + r = i → r < f → i ≤ qq → N.1 30 k = nI qq → (∀ i', i' < i → ∀ c, c < 7 → hM N k i' c = g i' c) → (∀ i', i ≤ i' → i' < qq → ∀ c, c < 7 → hM N k (i' + n) c = g i' c) →
    ∃ N', f_X12_tiles_33 f (nI k) x2 (nI n) w (nI o) (nI i - 1) N = f_X12_tiles_105 100000 (nI k) x2 (nI n) w (nI o) 0 N' ∧ MT k N N' ∧ N'.1 30 k = nI (qq + n) ∧ TLr g (hM N' k) qq o n := by
  intro r
  induction r with
  | zero =>
    intro i f N hi hf hiq h30 h1 h2
    obtain ⟨f, rfl⟩ : ∃ z, f = z + 1 := ⟨f - 1, by omega⟩
    obtain ⟨i, rfl⟩ : ∃ z, i = z + 1 := ⟨i - 1, by omega⟩
    rw [f_X12_tiles_33, nI_pred, if_pos (nI_lt (by omega) (by omega)), ck40 hk, ck40 hk, nI_clamp (by omega), h30, nI_add]
    have e31 : (sI N 30 k (nI (qq + n))).1 31 = N.1 31 := sI_n (by decide)
    refine ⟨_, rfl, ⟨fun c x y => sI_n x, rfl, fun z _ => by rw [e31], fun k' hk' => by rw [sI_e, pk_un hk']⟩, by rw [sI_e, pk_us], fun i' hi' c hc => ?_, fun i' h3 h4 c hc => ?_⟩
    · show (sI N 30 k _).1 31 _ = _
      rw [e31]; exact h1 i' (by omega) c hc
    · show (sI N 30 k _).1 31 _ = _
      rw [e31]; exact h2 i' (by omega) h4 c hc
  | succ r ih =>
    intro i f N hi hf hiq h30 h1 h2
    obtain ⟨f, rfl⟩ : ∃ z, f = z + 1 := ⟨f - 1, by omega⟩
    obtain ⟨i, rfl⟩ : ∃ z, i = z + 1 := ⟨i - 1, by omega⟩
    obtain ⟨N1, a1, a2, a3, a4, a5, a6⟩ := mv43 (k := k) (n := n) (k33 := f_X12_tiles_33 f) (x2 := x2) (x4 := w) (x5 := nI o) (i := i) hk (by omega) hn 7 0 100000 N (by omega) (by omega)
    have a1 : f_X12_tiles_43 (f_X12_tiles_33 f) 100000 (nI k) x2 (nI n) w (nI o) (nI i) 0 N = _ := a1
    rw [f_X12_tiles_33, nI_pred, if_neg (nI_nlt (by omega) (by omega)), a1, show nI i + (-1) = nI i - 1 from (Int32.sub_eq_add_neg (nI i) 1).symm]
    obtain ⟨N', b1, b2, b3, b4⟩ := ih i f N1 (by omega) (by omega) (by omega) (by rw [a3]; exact h30) (fun i' hi' c hc => by rw [a6 i' (by omega) c hc]; exact h1 i' (by omega) c hc) (fun i' h3 h4 c hc => by
      by_cases z : i' = i
      · rw [z, a4 c (by omega) hc]; exact h1 i (by omega) c hc
      · rw [a6 (i' + n) (by omega) c hc]; exact h2 i' (by omega) h4 c hc)
    exact ⟨N', b1, MT_t a2 b2, b3, b4⟩
theorem cl_m {x2 w : Int32} (hk : k < 40) (ho : o + n ≤ 16) : ∀ r m f N, m + r = n → r < f → TLr g (hM N k) qq o n → TLn (hM N k) o m →
    ∃ N', f_X12_tiles_105 f (nI k) x2 (nI n) w (nI o) (nI m) N = f_X12_tiles_139 100000 (nI k) x2 (nI n) w (nI o) 0 N' ∧ MT k N N' ∧ N'.1 30 k = N.1 30 k ∧ TLr g (hM N' k) qq o n ∧ TLn (hM N' k) o n := by
  intro r
  induction r with
  | zero =>
    intro m f N hm hf hr hn
    obtain ⟨f, rfl⟩ : ∃ z, f = z + 1 := ⟨f - 1, by omega⟩
    have : m = n := by omega
    subst this
    rw [f_X12_tiles_105, if_pos (nI_le (by omega) (by omega))]
    exact ⟨N, rfl, MT_r k N, rfl, hr, hn⟩
  | succ r ih =>
    intro m f N hm hf hr hn
    obtain ⟨f, rfl⟩ : ∃ z, f = z + 1 := ⟨f - 1, by omega⟩
    rw [f_X12_tiles_105, if_neg (nI_ge (by omega) (by omega))]
    unfold f_X12_rowAt
    rw [bq_s, i_n16, i_n7, i_n6]
    simp only [pk_mul, nI_add]
    rw [ck_nI (by omega) (by omega), nI_clamp (by omega), nI_1]
    obtain ⟨N', e1, e2, e3, e4, e5⟩ := ih (m + 1) f (sI N 31 (7 * (16 * k + (o + m)) + 6) (-9)) (by omega) (by omega) (TLr_c hr (fun i hi c hc => by show (sI N 31 _ _).1 31 _ = _; rw [sI_e, pk_un (by omega)])) (fun j hj => by
      show (sI N 31 _ _).1 31 (7 * (16 * k + (o + j)) + 6) = -9
      by_cases z : j = m
      · rw [z, sI_e, pk_us]
      · rw [sI_e, pk_un (by omega)]; exact hn j (by omega))
    exact ⟨N', e1, MT_t (MT_s (by omega)) e2, by rw [e3, sI_n (by decide)], e4, e5⟩
/-- the reference widens one row -/
theorem wd163 {k139 : Int32 → Int32 → Int32 → Int32 → Int32 → Int32 → Mem → Option (Bool × Mem)} {x2 x3 w : Int32} {j s : Nat} (hk : k < 40) (hj : o + j < 16) (hs : s < 16) (hne : s ≠ o + j) : ∀ r c f N, c + r = 6 → r < f →
    ∃ N', f_X12_tiles_163 k139 f (nI k) x2 x3 w (nI o) (nI j) (nI (7 * (16 * k + s))) (nI c) N = (if hM N' k (o + j) 5 ≤ 400 then k139 (nI k) x2 x3 w (nI o) (nI j + 1) N' else some (false, N')) ∧ MT k N N' ∧ N'.1 30 = N.1 30 ∧
      (∀ i c', c' < 7 → hM N' k i c' = if i = o + j ∧ c ≤ c' ∧ c' < 6 then (if c' = 5 then hM N k s 5 * w else hM N k s c') else hM N k i c') := by
  intro r
  induction r with
  | zero =>
    intro c f N hc hf
    obtain ⟨f, rfl⟩ : ∃ z, f = z + 1 := ⟨f - 1, by omega⟩
    rw [f_X12_tiles_163, i_n6, if_pos (nI_le (by omega) (by omega))]
    unfold f_X12_rowAt
    rw [bq_s, i_n16, i_n7, i_n5]
    simp only [pk_mul, nI_add]
    rw [ck_nI (by omega) (by omega), nI_clamp (by omega)]
    exact ⟨N, rfl, MT_r k N, rfl, fun i c' _ => by rw [if_neg (by omega)]⟩
  | succ r ih =>
    intro c f N hc hf
    obtain ⟨f, rfl⟩ : ∃ z, f = z + 1 := ⟨f - 1, by omega⟩
    rw [f_X12_tiles_163, i_n6, if_neg (nI_ge (by omega) (by omega))]
    unfold f_X12_rowAt
    rw [bq_s, i_n16, i_n7]
    simp only [pk_mul, nI_add]
    rw [ck_nI (by omega) (by omega), ck_nI (by omega) (by omega), ck_nI (by omega) (by omega), nI_clamp (by omega), nI_clamp (by omega), nI_1, Int32.mul_one]
    have go : ∀ x, x = (if c = 5 then hM N k s 5 * w else hM N k s c) → ∃ N', f_X12_tiles_163 k139 f (nI k) x2 x3 w (nI o) (nI j) (nI (7 * (16 * k + s))) (nI (c + 1)) (sI N 31 (7 * (16 * k + (o + j)) + c) x) = (if hM N' k (o + j) 5 ≤ 400 then k139 (nI k) x2 x3 w (nI o) (nI j + 1) N' else some (false, N')) ∧ MT k N N' ∧ N'.1 30 = N.1 30 ∧
      (∀ i c', c' < 7 → hM N' k i c' = if i = o + j ∧ c ≤ c' ∧ c' < 6 then (if c' = 5 then hM N k s 5 * w else hM N k s c') else hM N k i c') := by
      intro x hx
      have eM : ∀ i c', c' < 7 → hM (sI N 31 (7 * (16 * k + (o + j)) + c) x) k i c' = if i = o + j ∧ c' = c then x else hM N k i c' := by
        intro i c' hc'
        show (sI N 31 _ _).1 31 (7 * (16 * k + i) + c') = _
        rw [sI_e]
        by_cases z : i = o + j ∧ c' = c
        · rw [if_pos z, z.1, z.2, pk_us]
        · rw [if_neg z, pk_un (by omega)]
      have mt : MT k N (sI N 31 (7 * (16 * k + (o + j)) + c) x) := MT_s (by omega)
      have e30 : (sI N 31 (7 * (16 * k + (o + j)) + c) x).1 30 = N.1 30 := sI_n (by decide)
      generalize sI N 31 (7 * (16 * k + (o + j)) + c) x = N1 at *
      obtain ⟨N', q1, q2, q3, q4⟩ := ih (c + 1) f N1 (by omega) (by omega)
      refine ⟨N', q1, MT_t mt q2, q3.trans e30, fun i c' hc' => ?_⟩
      rw [q4 i c' hc']
      by_cases z : i = o + j ∧ c + 1 ≤ c' ∧ c' < 6
      · have e1 : hM N1 k s 5 = hM N k s 5 := by rw [eM s 5 (by omega), if_neg (by omega)]
        have e2 : hM N1 k s c' = hM N k s c' := by rw [eM s c' hc', if_neg (by omega)]
        rw [if_pos z, e1, e2, if_pos (show i = o + j ∧ c ≤ c' ∧ c' < 6 from ⟨z.1, by omega, z.2.2⟩)]
      · rw [if_neg z, eM i c' hc']
        by_cases y : i = o + j ∧ c' = c
        · rw [if_pos y, if_pos ⟨y.1, by omega, by omega⟩, hx, y.2]
        · rw [if_neg y, if_neg (by omega)]
    by_cases c5 : c = 5
    · rw [if_pos (show nI c = 5 by rw [c5]; rfl)]
      exact go _ (by rw [if_pos c5, c5])
    · rw [if_neg (show ¬ nI c = 5 from fun z => c5 (nI_inj (by omega) (by omega) (show nI c = nI 5 from z)))]
      exact go _ (by rw [if_neg c5])
theorem wd_m {d : Nat} {w : Int32} (hk : k < 40) (hq : qq + n ≤ 16) (ho : o < qq) (hd : d + n ≤ 4) (hfr : ∀ j, j < n → FI (fun i => g i 6) qq (d + j) (fr j)) : ∀ r j f N, j + r = n → r < f → N.1 30 k = nI (qq + n) → TLr g (hM N k) qq o n → TLn (hM N k) o n → TLw g (hM N k) fr o j w → (∀ j', j' < j → g (fr j') 5 * w ≤ 400) →
    (∃ N', f_X12_tiles_139 f (nI k) (nI d) (nI n) w (nI o) (nI j) N = some (true, N') ∧ MT k N N' ∧ N'.1 30 k = nI (qq + n) ∧ TLr g (hM N' k) qq o n ∧ TLn (hM N' k) o n ∧ TLw g (hM N' k) fr o n w ∧ ∀ j', j' < n → g (fr j') 5 * w ≤ 400) ∨
    (∃ N', f_X12_tiles_139 f (nI k) (nI d) (nI n) w (nI o) (nI j) N = some (false, N') ∧ MT k N N' ∧ ∃ j', j' < n ∧ ¬ g (fr j') 5 * w ≤ 400) := by
  intro r
  induction r with
  | zero =>
    intro j f N hj hf h30 hr hn hw hok
    obtain ⟨f, rfl⟩ : ∃ z, f = z + 1 := ⟨f - 1, by omega⟩
    have : j = n := by omega
    subst this
    rw [f_X12_tiles_139, if_pos (nI_le (by omega) (by omega))]
    exact .inl ⟨N, rfl, MT_r k N, h30, hr, hn, hw, hok⟩
  | succ r ih =>
    intro j f N hj hf h30 hr hn hw hok
    obtain ⟨f, rfl⟩ : ∃ z, f = z + 1 := ⟨f - 1, by omega⟩
    obtain ⟨s1, s2⟩ := FI_sh (by omega) (hfr j (by omega)) hr hn
    have lr := lrM hk hq h30 s1
    have sl : sh o n (fr j) < 16 := by have := s1.1; omega
    have ne : sh o n (fr j) ≠ o + j := fun z => by
      have x := s1.2.1
      have x : hM N k (sh o n (fr j)) 6 = nI (d + j) := x
      rw [z, hn j (by omega)] at x
      exact nN9 (by omega) x.symm
    generalize hs : sh o n (fr j) = s at *
    obtain ⟨N1, q1, q2, q3, q4⟩ := wd163 (k := k) (o := o) (k139 := f_X12_tiles_139 f) (x2 := nI d) (x3 := nI n) (w := w) (j := j) (s := s) hk (by omega) sl ne 6 0 100000 N (by omega) (by omega)
    have q1 : f_X12_tiles_163 (f_X12_tiles_139 f) 100000 (nI k) (nI d) (nI n) w (nI o) (nI j) (nI (7 * (16 * k + s))) 0 N = _ := q1
    rw [f_X12_tiles_139, if_neg (nI_ge (by omega) (by omega))]
    have e5 : hM N1 k (o + j) 5 = g (fr j) 5 * w := by rw [q4 _ _ (by omega), if_pos ⟨rfl, by omega, by omega⟩, if_pos rfl, s2 5 (by omega)]
    unfold f_X12_rowAt
    rw [nI_add, lr, bq_s, bq_s, i_n16, i_n7, pk_mul, nI_add, pk_mul, q1, e5, nI_1]
    by_cases z : g (fr j) 5 * w ≤ 400
    · rw [if_pos z]
      have nx := ih (j + 1) f N1 (by omega) (by omega) (by rw [q3]; exact h30) (TLr_c hr (fun i hi c hc => by rw [q4 i c hc, if_neg (by omega)])) (fun j' hj' => by rw [q4 _ 6 (by omega), if_neg (by omega)]; exact hn j' hj') (fun j' hj' => by
        by_cases y : j' = j
        · subst y
          exact ⟨fun c hc => by rw [q4 _ c (by omega), if_pos ⟨rfl, by omega, by omega⟩, if_neg (by omega)]; exact s2 c (by omega), e5⟩
        · exact ⟨fun c hc => by rw [q4 _ c (by omega), if_neg (by omega)]; exact (hw j' (by omega)).1 c hc, by rw [q4 _ 5 (by omega), if_neg (by omega)]; exact (hw j' (by omega)).2⟩) (fun j' hj' => by
        by_cases y : j' = j
        · rw [y]; exact z
        · exact hok j' (by omega))
      rcases nx with ⟨N', n1, n2, n3⟩ | ⟨N', n1, n2, n3⟩
      · exact .inl ⟨N', n1, MT_t q2 n2, n3⟩
      · exact .inr ⟨N', n1, MT_t q2 n2, n3⟩
    · rw [if_neg z]
      exact .inr ⟨N1, rfl, q2, j, by omega, z⟩
/-- the class: do the widths fit -/
theorem tf67 {k14 : Int32 → Int32 → Int32 → Int32 → Int32 → Mem → Option Bool} {x1 w : Int32} {M : Mem} {a d : Nat} (ha : a < 12) (hq : qq ≤ 16) (hd : d + n ≤ 4) (h29 : M.1 29 a = nI qq) (hg : ∀ i, i < qq → ∀ c, c < 7 → hC M a i c = g i c) (hfr : ∀ j, j < n → FI (fun i => g i 6) qq (d + j) (fr j)) :
    ∀ r j f, j + r = n → r < f → (∀ j', j' < j → g (fr j') 5 * w ≤ 400) → (f_X3_tileFits_67 k14 f x1 (nI n) w (nI d) (nI a) (nI j) M = k14 x1 (nI n) w (nI d) (nI a + 1) M ∧ ∀ j', j' < n → g (fr j') 5 * w ≤ 400) ∨ (f_X3_tileFits_67 k14 f x1 (nI n) w (nI d) (nI a) (nI j) M = some false ∧ ∃ j', j' < n ∧ ¬ g (fr j') 5 * w ≤ 400) := by
  intro r
  induction r with
  | zero =>
    intro j f hj hf hok
    obtain ⟨f, rfl⟩ : ∃ z, f = z + 1 := ⟨f - 1, by omega⟩
    rw [f_X3_tileFits_67, if_pos (nI_le (by omega) (by omega))]
    exact .inl ⟨rfl, fun j' hj' => hok j' (by omega)⟩
  | succ r ih =>
    intro j f hj hf hok
    obtain ⟨f, rfl⟩ : ∃ z, f = z + 1 := ⟨f - 1, by omega⟩
    obtain ⟨s1, s2, s3⟩ := hfr j (by omega)
    have lr := lrC (d := d + j) (i := fr j) ha hq h29 ⟨s1, by show hC M a (fr j) 6 = _; rw [hg _ s1 6 (by omega)]; exact s2, fun i' hi' => by show hC M a i' 6 ≠ _; rw [hg _ (by omega) 6 (by omega)]; exact s3 i' hi'⟩
    have e5 : M.1 28 ((a * 16 + fr j) * 7 + 5) = g (fr j) 5 := hg _ s1 5 (by omega)
    rw [f_X3_tileFits_67, if_neg (nI_ge (by omega) (by omega)), nI_add, lr, bq_s, if_neg (nI_pos (by omega)), i_n5, nI_add, ck_nI (by omega) (by omega), nI_clamp (by omega), e5, nI_1]
    by_cases z : g (fr j) 5 * w ≤ 400
    · rw [if_pos z]
      exact ih (j + 1) f (by omega) (by omega) (fun j' hj' => by
        by_cases y : j' = j
        · rw [y]; exact z
        · exact hok j' (by omega))
    · rw [if_neg z]
      exact .inr ⟨rfl, j, by omega, z⟩
end
section
variable {ns nn na : Nat} {C0 N0 M N : Mem}
theorem RW_tile {g H : Rw} {fr : Nat → Nat} {qq l o n w : Nat} (h : RW qq l g) (o1 : 1 ≤ o) (oq : o < qq) (hq : qq + n ≤ 16) (w1 : 2 ≤ w) (w2 : w ≤ 20) (hfr : ∀ j, j < n → fr j < qq) (hr : TLr g H qq o n) (hn : TLn H o n) (hw : TLw g H fr o n (nI w)) (hok : ∀ j, j < n → g (fr j) 5 * nI w ≤ 400) : RW (qq + n) l H := by
  obtain ⟨a1, a2, a3, a4, a5, a6, a7⟩ := h
  have cs : ∀ i, i < qq + n → (i < o ∧ ∀ c, c < 7 → H i c = g i c) ∨ (∃ j, j < n ∧ i = o + j) ∨ (∃ i', o ≤ i' ∧ i' < qq ∧ i = i' + n ∧ ∀ c, c < 7 → H i c = g i' c) := by
    intro i hi
    by_cases q : i < o
    · exact .inl ⟨q, hr.1 i q⟩
    · by_cases y : i < o + n
      · exact .inr (.inl ⟨i - o, by omega, by omega⟩)
      · refine .inr (.inr ⟨i - n, by omega, by omega, by omega, fun c hc => ?_⟩)
        have := hr.2 (i - n) (by omega) (by omega) c hc
        rw [show i - n + n = i by omega] at this
        exact this
  refine ⟨by omega, hq, by rw [hr.1 0 (by omega) 6 (by omega)]; exact a3, fun d hd => ?_, fun i hi => ?_, fun i hi c hc => ?_, fun i hi => ?_⟩
  · obtain ⟨i, i1, i2⟩ := a4 d hd
    by_cases q : i < o
    · exact ⟨i, by omega, by rw [hr.1 i q 6 (by omega)]; exact i2⟩
    · exact ⟨i + n, by omega, by rw [hr.2 i (by omega) i1 6 (by omega)]; exact i2⟩
  · rcases cs i hi with ⟨q1, q2⟩ | ⟨j, q1, q2⟩ | ⟨i', q1, q2, q3, q4⟩
    · rw [q2 5 (by omega)]; exact a5 i (by omega)
    · rw [q2, (hw j q1).2]
      obtain ⟨u, u1, u2, u3⟩ := a5 (fr j) (hfr j q1)
      have ok := hok j q1
      rw [u3, pk_mul] at ok ⊢
      have b : u * w ≤ 400 * 20 := Nat.mul_le_mul u2 w2
      have ok := (nI_leI (show u * w < 2 ^ 31 by omega) (show 400 < 2 ^ 31 by decide)).mp ok
      exact ⟨u * w, Nat.le_trans (by omega) (Nat.mul_le_mul u1 (show 1 ≤ w by omega)), ok, rfl⟩
    · rw [q4 5 (by omega)]; exact a5 i' q2
  · rcases cs i hi with ⟨q1, q2⟩ | ⟨j, q1, q2⟩ | ⟨i', q1, q2, q3, q4⟩
    · rw [q2 c (by omega)]; exact a6 i (by omega) c hc
    · rw [q2, (hw j q1).1 c hc]; exact a6 (fr j) (hfr j q1) c hc
    · rw [q4 c (by omega)]; exact a6 i' q2 c hc
  · rcases cs i hi with ⟨q1, q2⟩ | ⟨j, q1, q2⟩ | ⟨i', q1, q2, q3, q4⟩
    · rw [q2 6 (by omega)]; exact a7 i (by omega)
    · rw [q2, hn j q1]; exact .inl rfl
    · rw [q4 6 (by omega)]; exact a7 i' q2
theorem MB_T {N1 : Mem} {k : Nat} (hk : k < 40) (h : MB N0 N) (g : MT k N N1) : MB N0 N1 := ⟨fun c x y => (g.1 c x y).trans (h.1 c x y), fun c x => by rw [g.2.1]; exact h.2.1 c x, fun j hj => by rw [g.2.2.1 j (by omega)]; exact h.2.2.1 j hj, fun j hj => by rw [g.2.2.2 j (by omega)]; exact h.2.2.2 j hj⟩
theorem tile_ls {C1 : Mem} (h2 : R2' ns nn na C0 N0) (h21 : R2' ns nn na C1 N0) (hC1 : ∀ c, c ≠ 108 → c ≠ 109 → C1.1 c = C0.1 c) (hO : OW na (C0.1 16) (C0.1 11) (C0.1 29) (C0.1 28) (N0.1 30) (N0.1 31)) {q : Nat} (hq : q < nn) (hql : Lq (N0.1 6) q) {d n w : Nat} (hd : d < 4) (ed : C0.1 11 q = nI d) (n1 : 1 ≤ n) (n4 : n ≤ 4) (w2 : 2 ≤ w) (w20 : w ≤ 20) :
    (∃ M N, f_X3_tileFits_14 100000 (nI q) (nI n) (nI w) (nI d) (nI 0) C1 = some true ∧ f_X3_tileRows_14 100000 (nI q) (nI n) (nI w) (nI d) (nI 0) C0 = some M ∧ f_X12_tile_65 100000 (nI q) (nI n) (nI w) (nI d) (nI 0) N0 = bd (f_X12_turned N) (fun r M => some (r, M)) ∧ OJ na C0 N0 M N) ∨
    (∃ N, f_X3_tileFits_14 100000 (nI q) (nI n) (nI w) (nI d) (nI 0) C1 = some false ∧ f_X12_tile_65 100000 (nI q) (nI n) (nI w) (nI d) (nI 0) N0 = bm (f_X12_giveTried N) (fun M => some (-2, M)) ∧ MB N0 N) := by
  have hn : nn ≤ 40 := h2.2.2.1
  have hna : na ≤ 12 := h2.2.2.2.2.2.1
  obtain ⟨k1, k2, k3, k4, k5⟩ := h2.2.2.2.2.2.2.1
  have hT := h2.2.2.2.2.2.2.2.1
  have hCW := h2.2.2.2.2.2.2.2.2.2.2.2
  have ed' : cN_ (C0.1 11 q) = d := by rw [ed]; exact cN_n' (by omega)
  have edn : nI d + nI n - 1 = nI (d + n - 1) := by rw [nI_add, i_n1, pk_sub (by omega)]
  refine acts_ind hCW hn (fun k a => ∀ M N f fk f', OJ na C0 N0 M N → (∀ j, a * 112 ≤ j → M.1 28 j = C0.1 28 j) → (∀ a', a ≤ a' → M.1 29 a' = C0.1 29 a') → nn - k < f' → na - a < f → na - a < fk →
    (∃ M' N', f_X3_tileFits_14 fk (nI q) (nI n) (nI w) (nI d) (nI a) C1 = some true ∧ f_X3_tileRows_14 f (nI q) (nI n) (nI w) (nI d) (nI a) M = some M' ∧ f_X12_tile_65 f' (nI q) (nI n) (nI w) (nI d) (nI k) N = bd (f_X12_turned N') (fun r M => some (r, M)) ∧ OJ na C0 N0 M' N') ∨
    (∃ N', f_X3_tileFits_14 fk (nI q) (nI n) (nI w) (nI d) (nI a) C1 = some false ∧ f_X12_tile_65 f' (nI q) (nI n) (nI w) (nI d) (nI k) N = bm (f_X12_giveTried N') (fun M => some (-2, M)) ∧ MB N0 N')) ?_ ?_ ?_ C0 N0 100000 100000 100000 ⟨CB_r C0, MB_r N0, hO⟩ (fun _ _ => rfl) (fun _ _ => rfl) (by omega) (by omega) (by omega)
  · intro M N f fk f' hJ hu hv hf' hf hfk
    obtain ⟨f, rfl⟩ : ∃ g, f = g + 1 := ⟨f - 1, by omega⟩
    obtain ⟨fk, rfl⟩ : ∃ g, fk = g + 1 := ⟨fk - 1, by omega⟩
    obtain ⟨f', rfl⟩ : ∃ g, f' = g + 1 := ⟨f' - 1, by omega⟩
    refine .inl ⟨M, N, ?_, ?_, ?_, hJ⟩
    · rw [f_X3_tileFits_14, h21.2.2.2.1, if_pos (nI_le (Nat.le_refl _) (by omega))]
    · rw [f_X3_tileRows_14, hJ.1.1 107 (by decide) (by decide), h2.2.2.2.1, if_pos (nI_le (Nat.le_refl _) (by omega))]
    · rw [f_X12_tile_65, hJ.2.1.1 102 (by decide) (by decide), h2.2.1, if_pos (nI_le (Nat.le_refl _) (by omega))]
  · intro k a hk ha h3 ih M N f fk f' hJ hu hv hf' hf hfk
    obtain ⟨f', rfl⟩ : ∃ g, f' = g + 1 := ⟨f' - 1, by omega⟩
    rw [f_X12_tile_65, hJ.2.1.1 102 (by decide) (by decide), h2.2.1, if_neg (nI_ge hk (by omega)), ai_eq h2 (hJ.2.1.1 6 (by decide) (by decide)) (hJ.2.1.1 7 (by decide) (by decide)) hq hql hk, if_neg (by rw [← k1]; exact h3), bq_s, bF, nI_1]
    exact ih M N f fk f' hJ hu hv (by omega) hf hfk
  · intro k a hk ha h3 han hao ih M N f fk f' hJ hu hv hf' hf hfk
    obtain ⟨f, rfl⟩ : ∃ g, f = g + 1 := ⟨f - 1, by omega⟩
    obtain ⟨fk, rfl⟩ : ∃ g, fk = g + 1 := ⟨fk - 1, by omega⟩
    obtain ⟨f', rfl⟩ : ∃ g, f' = g + 1 := ⟨f' - 1, by omega⟩
    obtain ⟨l, hl4, el⟩ : ∃ l, l ≤ 4 ∧ C0.1 11 k = nI l := ⟨_, (hT k hk).2.2.1.2.1, (hT k hk).2.2.1.1⟩
    have el' : cN_ (C0.1 11 k) = l := by rw [el]; exact cN_n' (by omega)
    have el1 : cN_ (C1.1 11 k) = l := by rw [hC1 11 (by decide) (by decide)]; exact el'
    have han1 : C1.1 16 a = nI k := by rw [hC1 16 (by decide) (by decide)]; exact han
    rw [f_X3_tileFits_14, f_X3_tileRows_14, f_X12_tile_65, h21.2.2.2.1, hJ.1.1 107 (by decide) (by decide), hJ.2.1.1 102 (by decide) (by decide), h2.2.2.2.1, h2.2.1, if_neg (nI_ge ha (by omega)), if_neg (nI_ge ha (by omega)), if_neg (nI_ge hk (by omega)), ai_eq h2 (hJ.2.1.1 6 (by decide) (by decide)) (hJ.2.1.1 7 (by decide) (by decide)) hq hql hk, if_pos (show N0.1 6 k = 3 by rw [← k1]; exact h3), edn, re_eq h2 hJ.1 ha hq hk han (by omega), re_eq h21 (CB_r C1) ha hq hk han1 (by omega), stB_k (hC1 11 (by decide) (by decide)) (hC1 14 (by decide) (by decide)), bq_s, bq_s, bq_s, el', el1, ck40 (by omega), nI_clamp (show k < 2 ^ 31 by omega), hJ.2.1.1 8 (by decide) (by decide), ← k3, el, nI_add d n]
    simp only [nI_1]
    cases es : stB C0 q k with
    | false =>
      rw [bF, Bool.false_and, bF, bF]
      exact ih M N f fk f' hJ (fun j hj => hu j (by omega)) (fun a' ha' => hv a' (by omega)) (by omega) (by omega) (by omega)
    | true =>
      have hst := of_decide_eq_true es
      rw [ed', el'] at hst
      rw [bT, Bool.true_and]
      by_cases hle : d + n - 1 < l
      · rw [decide_eq_true hle, bT, bT, if_neg (nI_nlt (by omega) (by omega))]
        obtain ⟨qq, o1, o2, o3, o4⟩ := hJ.2.2 a ha
        have ek : cN_ (C0.1 16 a) = k := by rw [han]; exact cN_n' (by omega)
        rw [ek] at o2 o3 o4
        rw [el'] at o4
        have hqq : qq ≤ 16 := o4.2.1
        have c29 : C1.1 29 a = nI qq := by rw [hC1 29 (by decide) (by decide), ← hv a (Nat.le_refl _)]; exact o1
        have c28 : ∀ i, i < qq → ∀ c, c < 7 → hC C1 a i c = hM N k i c := fun i hi c hc => by
          show C1.1 28 _ = _
          rw [hC1 28 (by decide) (by decide), ← hu _ (by omega)]; exact o3 i hi c hc
        have hfr0 : ∀ j, ∃ i, j < n → FI (fun i => hM N k i 6) qq (d + j) i := fun j => by
          by_cases z : j < n
          · obtain ⟨i, hi⟩ := FI_ex (h6 := fun i => hM N k i 6) (o4.2.2.2.1 (d + j) (by omega))
            exact ⟨i, fun _ => hi⟩
          · exact ⟨0, fun y => absurd y z⟩
        obtain ⟨fr, hfr⟩ := Classical.axiomOfChoice hfr0
        have f0 := hfr 0 (by omega)
        rw [Nat.add_zero] at f0
        have fo : 1 ≤ fr 0 := by
          rcases Nat.eq_zero_or_pos (fr 0) with y | y
          · have := f0.2.1
            rw [y] at this
            have this : hM N k 0 6 = nI d := this
            have w3 : hM N k 0 6 = -9 := o4.2.2.1
            rw [w3] at this
            exact absurd this.symm (nN9 (by omega))
          · exact y
        have fq := f0.1
        have fiM : FI (fun i => hC M a i 6) qq d (fr 0) := ⟨fq, by show hC M a (fr 0) 6 = _; rw [show hC M a (fr 0) 6 = hM N k (fr 0) 6 from o3 _ fq 6 (by omega)]; exact f0.2.1, fun i' hi' => by show hC M a i' 6 ≠ _; rw [show hC M a i' 6 = hM N k i' 6 from o3 _ (by omega) 6 (by omega)]; exact f0.2.2 i' hi'⟩
        rw [ck_nI (show a < 12 by omega) (by decide), nI_clamp (by omega), c29, nI_add]
        unfold f_X12_tiles
        rw [ck40 (by omega), nI_clamp (by omega), o2, nI_add]
        by_cases q16 : qq + n ≤ 16
        · rw [if_pos (show nI (qq + n) ≤ 16 from nI_le (b := 16) q16 (by decide)), if_pos (show nI (qq + n) ≤ 16 from nI_le (b := 16) q16 (by decide)), lrC (by omega) hqq o1 fiM, bq_s, if_pos (nI_pos' (by omega)), lrM (by omega) hqq o2 f0, bq_s, ck40 (by omega)]
          obtain ⟨M1, a1, a2, a3, a4⟩ := op_c (M := M) (a := a) (n := n) (by omega) o1 fq q16
          have gC : TLr (hM N k) (hC M1 a) qq (fr 0) n := ⟨fun i hi c hc => by rw [a4.1 i hi c hc]; exact o3 i (by omega) c hc, fun i h1 h2 c hc => by rw [a4.2 i h1 h2 c hc]; exact o3 i h2 c hc⟩
          obtain ⟨M2, b1, b2, b3, b4, b5⟩ := cl_c (g := hM N k) (qq := qq) (o := fr 0) (w := nI w) (k14 := f_X3_tileRows_14 f) (x1 := nI q) (x4 := nI d) (a := a) (n := n) (by omega) (by omega) n 0 100000 M1 (by omega) (by omega) gC (fun j hj => absurd hj (by omega))
          have b1 : f_X3_tileRows_81 (f_X3_tileRows_14 f) 100000 (nI q) (nI n) (nI w) (nI d) (nI a) (nI ((a * 16 + fr 0) * 7)) 0 M1 = _ := b1
          obtain ⟨M3, c1, c2, c3, c4, c5, c6⟩ := wd_c (g := hM N k) (fr := fr) (w := nI w) (k14 := f_X3_tileRows_14 f) (x1 := nI q) (d := d) (a := a) (by omega) q16 fq (by omega) hfr n 0 100000 M2 (by omega) (by omega) (by rw [b3]; exact a3) b4 b5 (fun j hj => absurd hj (by omega))
          have c1 : f_X3_tileRows_117 (f_X3_tileRows_14 f) 100000 (nI q) (nI n) (nI w) (nI d) (nI a) (nI ((a * 16 + fr 0) * 7)) 0 M2 = _ := c1
          rw [a1, bm_s, b1, c1]
          obtain ⟨N1, d1, d2, d3, d4⟩ := mv33 (k := k) (n := n) (g := hM N k) (o := fr 0) (qq := qq) (x2 := nI d) (w := nI w) (by omega) n1 fo q16 (qq - fr 0) qq 100000 N (by omega) (by omega) (by omega) o2 (fun i' hi' c hc => rfl) (fun i' h1 h2 => absurd h2 (by omega))
          obtain ⟨N2, e1, e2, e3, e4, e5⟩ := cl_m (k := k) (g := hM N k) (qq := qq) (o := fr 0) (n := n) (x2 := nI d) (w := nI w) (by omega) (by omega) n 0 100000 N1 (by omega) (by omega) d4 (fun j hj => absurd hj (by omega))
          have e1 : f_X12_tiles_105 100000 (nI k) (nI d) (nI n) (nI w) (nI (fr 0)) 0 N1 = _ := e1
          have wd := wd_m (k := k) (g := hM N k) (fr := fr) (w := nI w) (d := d) (by omega) q16 fq (by omega) hfr n 0 100000 N2 (by omega) (by omega) (by rw [e3]; exact d3) e4 e5 (fun j hj => absurd hj (by omega)) (fun j hj => absurd hj (by omega))
          have fit := tf67 (k14 := f_X3_tileFits_14 fk) (x1 := nI q) (w := nI w) (M := C1) (g := hM N k) (fr := fr) (a := a) (d := d) (qq := qq) (n := n) (by omega) hqq (by omega) c29 c28 hfr n 0 100000 (by omega) (by omega) (fun j hj => absurd hj (by omega))
          rw [d1, e1, i_n0]
          rcases wd with ⟨N3, z1, z2, z3, z4, z5, z6, z7⟩ | ⟨N3, z1, z2, j0, z3, z4⟩
          · rcases fit with ⟨y1, _⟩ | ⟨_, j1, y2, y3⟩
            · rw [z1, bd_s, bT, y1, nI_1]
              have cT := CT_t a2 (CT_t b2 c2)
              have mT := MT_t d2 (MT_t e2 z2)
              refine ih M3 N3 f fk f' ⟨⟨fun c x y => (cT.1 c x y).trans (hJ.1.1 c x y), cT.2.1.trans hJ.1.2⟩, MB_T (by omega) hJ.2.1 mT, ?_⟩ (fun j hj => by rw [cT.2.2.1 j (by omega)]; exact hu j (by omega)) (fun a' ha' => by rw [cT.2.2.2 a' (by omega)]; exact hv a' (by omega)) (by omega) (by omega) (by omega)
              refine OW_upd (a := a) (k := k) hJ.2.2 (inj_a h2 ha hk han hao) ek cT.2.2.2 cT.2.2.1 mT.2.2.2 mT.2.2.1 ⟨qq + n, c3, z3, fun i hi c hc => ?_, ?_⟩
              · show hC M3 a i c = hM N3 k i c
                by_cases p1 : i < fr 0
                · rw [c4.1 i p1 c hc, z4.1 i p1 c hc]
                · by_cases p2 : i < fr 0 + n
                  · obtain ⟨j, rfl⟩ : ∃ j, i = fr 0 + j := ⟨i - fr 0, by omega⟩
                    rcases (show c < 5 ∨ c = 5 ∨ c = 6 by omega) with p | p | p
                    · rw [(c6 j (by omega)).1 c p, (z6 j (by omega)).1 c p]
                    · rw [p, (c6 j (by omega)).2, (z6 j (by omega)).2]
                    · rw [p, c5 j (by omega), z5 j (by omega)]
                  · have x1 := c4.2 (i - n) (by omega) (by omega) c hc
                    have x2 := z4.2 (i - n) (by omega) (by omega) c hc
                    rw [show i - n + n = i by omega] at x1 x2
                    rw [x1, x2]
              · rw [el']
                exact RW_tile o4 fo fq q16 w2 w20 (fun j hj => (hfr j hj).1) z4 z5 z6 z7
            · exact absurd (z7 j1 y2) y3
          · rcases fit with ⟨_, y2⟩ | ⟨y1, _⟩
            · exact absurd (y2 j0 z3) z4
            · rw [z1, bd_s, bF, y1]
              exact .inr ⟨N3, rfl, rfl, MB_T (by omega) hJ.2.1 (MT_t d2 (MT_t e2 z2))⟩
        · rw [if_neg (show ¬ nI (qq + n) ≤ 16 from nI_ge (a := 16) (by omega) (by omega)), if_neg (show ¬ nI (qq + n) ≤ 16 from nI_ge (a := 16) (by omega) (by omega)), bd_s, bF]
          exact .inr ⟨N, rfl, rfl, hJ.2.1⟩
      · rw [decide_eq_false hle, bF, bF, if_pos (nI_lt (by omega) (by omega))]
        exact ih M N f fk f' hJ (fun j hj => hu j (by omega)) (fun a' ha' => hv a' (by omega)) (by omega) (by omega) (by omega)
end
theorem rng1 (x : Int32) (p m : Nat) (hp : p < 2 ^ 31) (hm : m < 2 ^ 31) (h1 : nI p ≤ x) (h2 : x ≤ nI m) : ∃ n, p ≤ n ∧ n ≤ m ∧ x = nI n := by
  rw [Int32.le_iff_toInt_le] at h1 h2
  rw [nI_toInt hp] at h1
  rw [nI_toInt hm] at h2
  have e0 : (0 : Int32).toInt = 0 := by decide
  obtain ⟨j, hj, e⟩ := nI_of (x := x) (by rw [Int32.lt_iff_toInt_lt]; omega)
  subst e
  rw [nI_toInt hj] at h1 h2
  exact ⟨j, by omega, by omega, rfl⟩
theorem sim_tile : Sim_tile Rel := by
  intro Mc Mm y0 y1 y2 ⟨ns, nn, na, nr, nk, h⟩
  have h2 := h.2.1
  have hn : nn ≤ 40 := h2.2.2.1
  obtain ⟨k1, k2, k3, k4, k5⟩ := h2.2.2.2.2.2.2.1
  unfold f_X11_tile f_X12_tile
  rw [kn_eq h2.1 (by omega), no_eq h2.2.1 (by omega), in_w 1 4, in_w 2 20, wi_d, wi_d]
  cases e0 : inN y0 nn with
  | false => exact same_go h _
  | true =>
    obtain ⟨j, hj, rfl⟩ := inN_t e0
    simp only [bq_s, bT, if_true]
    by_cases q1 : 1 ≤ y1 ∧ y1 ≤ 4
    · by_cases q2 : 2 ≤ y2 ∧ y2 ≤ 20
      · obtain ⟨n, n1, n4, rfl⟩ := rng1 y1 1 4 (by decide) (by decide) q1.1 q1.2
        obtain ⟨w, w2, w20, rfl⟩ := rng1 y2 2 20 (by decide) (by decide) q2.1 q2.2
        rw [decide_eq_true q1, decide_eq_true q2]
        simp only [if_true]
        obtain ⟨b, b1, b2, b3, _⟩ := isLp_b (M := Mc) (N := Mm) (j := j) (by omega) k1
        rw [b1, b2, bq_s, bq_s]
        cases b with
        | false => exact meet_go h 3 (by decide) rfl
        | true =>
          have hql := b3 rfl
          obtain ⟨d, hd, ed⟩ : ∃ d, d < 4 ∧ Mc.1 11 j = nI d := ⟨_, (h2.2.2.2.2.2.2.2.1 j hj).2.2.1.2.2 (by rw [k1]; exact hql), (h2.2.2.2.2.2.2.2.1 j hj).2.2.1.1⟩
          obtain ⟨Mk, Mt, t1, t2, t3, t4, t5, t6, t34, t35, t7⟩ := turn_done h
          obtain ⟨g2, gO⟩ := R2_k h t3 t5
          have g21 : R2' ns nn na Mc Mt := (R2_k (Mk := Mc) h (fun _ _ _ => rfl) t5).1
          have pl := tile_ls (C1 := Mc) g2 g21 (fun c a b => (t3 c a b).symm) gO hj (by rw [t5 6 (by decide) (by decide)]; exact hql) hd (by rw [t3 11 (by decide) (by decide)]; exact ed) n1 n4 w2 w20
          unfold f_X3_tileFits f_X3_tileRows
          rw [bT, bT, ck40 (by omega), ck40 (by omega), nI_clamp (by omega), ← k3, ed, t2, bm_s, i_n0]
          rcases pl with ⟨M, N, u1, u2, u3, u4⟩ | ⟨N, u1, u2, u3⟩
          · obtain ⟨Mc3, Mm3, v1, v2, v3⟩ := t7 M N u4.1.1 u4.1.2 u4.2.1.1 u4.2.1.2.1 (by have := u4.2.2; rw [t3 16 (by decide) (by decide), t3 11 (by decide) (by decide)] at this; exact this)
            rw [u1, bq_s, bT, t1, bm_s, ck40 (by omega), t3 11 (by decide) (by decide), ed, u2, bm_s, v1, u3, v2]
            exact ⟨_, _, _, rfl, rfl, v3⟩
          · obtain ⟨N', w1, w2⟩ := give_rel h t5 t6 t34 t35 u3
            rw [u1, bq_s, bF, u2, w1, bm_s]
            exact same_go w2 _
      · rw [decide_eq_true q1, decide_eq_false q2]; exact same_go h _
    · rw [decide_eq_false q1]; exact same_go h _
