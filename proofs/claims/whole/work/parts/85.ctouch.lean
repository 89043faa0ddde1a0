/-! the pure half: what visits touch, in the class -/
theorem sm_c {f g : Nat → Nat} : ∀ n, (∀ i, i < n → f i = g i) → sm f n = sm g n := by
  intro n
  induction n with
  | zero => intro _; rfl
  | succ n ih => intro h; show sm f n + f n = sm g n + g n; rw [ih (fun i hi => h i (by omega)), h n (by omega)]
theorem sm_u {f g : Nat → Nat} {k : Nat} : ∀ n, k < n → g k = f k + 1 → (∀ i, i < n → i ≠ k → g i = f i) → sm g n = sm f n + 1 := by
  intro n
  induction n with
  | zero => intro h; omega
  | succ n ih =>
    intro hk h1 h2
    show sm g n + g n = sm f n + f n + 1
    by_cases q : k = n
    · subst q
      rw [sm_c (f := g) (g := f) k (fun i hi => h2 i (by omega) (by omega)), h1]; omega
    · rw [ih (by omega) h1 (fun i hi => h2 i (by omega)), h2 n (by omega) (fun z => q z.symm)]; omega
theorem sm_one {f : Nat → Nat} : ∀ n, (∀ i, i < n → f i = 1) → sm f n = n := by
  intro n
  induction n with
  | zero => intro _; rfl
  | succ n ih => intro h; show sm f n + f n = n + 1; rw [ih (fun i hi => h i (by omega)), h n (by omega)]
abbrev tA (T : Tc) (u : Nat) : Int32 := T.1 (u / 3) (u % 3)
abbrev tR (T : Tc) (u : Nat) : Int64 := T.2.1 (u / 3) (u % 3)
abbrev tP (T : Tc) (u : Nat) : Int64 := T.2.2 (u / 3) (u % 3)
def one3 (T : Tc) (t u : Nat) : Prop := tA T t ≠ -9 ∧ tA T u ≠ -9 ∧ tA T t = tA T u ∧ tR T t = tR T u ∧ tP T t = tP T u
theorem one3_r {T : Tc} {t : Nat} (h : tA T t ≠ -9) : one3 T t t := ⟨h, h, rfl, rfl, rfl⟩
theorem one3_s {T : Tc} {t u : Nat} (h : one3 T t u) : one3 T u t := ⟨h.2.1, h.1, h.2.2.1.symm, h.2.2.2.1.symm, h.2.2.2.2.symm⟩
theorem one3_t {T : Tc} {t u w : Nat} (h : one3 T t u) (g : one3 T u w) : one3 T t w := ⟨h.1, g.2.1, h.2.2.1.trans g.2.2.1, h.2.2.2.1.trans g.2.2.2.1, h.2.2.2.2.trans g.2.2.2.2⟩
/-- the slot at which looking begins -/
def hsO (a : Int32) (i j : Int64) : Nat := match f_X9_slotOf a i j with
  | some x => x.toNatClampNeg
  | none => 0
theorem sl_eq (a : Int32) (i j : Int64) : f_X9_slotOf a i j = some (nI (hsO a i j)) ∧ hsO a i j < 2048 := by
  obtain ⟨x, hx⟩ : ∃ x : Int32, f_X9_slotOf a i j = some (x &&& 2047) := ⟨_, rfl⟩
  obtain ⟨k, hk, e⟩ := pk_andE x (m := 2047) 11 (by decide)
  have hk : k < 2048 := hk
  unfold hsO
  rw [hx, e]
  show some (nI k) = some (nI (nI k).toNatClampNeg) ∧ (nI k).toNatClampNeg < 2048
  rw [nI_clamp (by omega)]
  exact ⟨rfl, hk⟩
def hs3 (T : Tc) (t : Nat) : Nat := hsO (tA T t) (tR T t) (tP T t)
theorem hs3_e {T : Tc} {t u : Nat} (h : one3 T t u) : hs3 T t = hs3 T u := by
  unfold hs3
  rw [h.2.2.1, h.2.2.2.1, h.2.2.2.2]
theorem hs3_l (T : Tc) (t : Nat) : hs3 T t < 2048 := (sl_eq _ _ _).2
def occ (c42 : Nat → Int32) (s : Nat) : Nat := if c42 s = 0 then 0 else 1
def TI (T : Tc) (t sp : Nat) (c114 : Int32) (c39 c40 : Nat → Int64) (c41 c42 : Nat → Int32) : Prop :=
  c114 = nI sp ∧ sp ≤ t ∧
  (∀ u, u < t → (tA T u = -9 → c41 u = -9) ∧ (tA T u ≠ -9 → (∃ s, s < sp ∧ c41 u = nI s) ∧ c39 u = tR T u ∧ c40 u = tP T u)) ∧
  (∀ u u', u < t → u' < t → tA T u ≠ -9 → tA T u' ≠ -9 → (c41 u = c41 u' ↔ one3 T u u')) ∧
  (∀ s, s < 2048 → c42 s = 0 ∨ ∃ u, u < t ∧ c42 s = nI (u + 1) ∧ tA T u ≠ -9) ∧
  (∀ u, u < t → tA T u ≠ -9 → ∃ j u', j < 2048 ∧ u' < t ∧ one3 T u' u ∧ c42 ((hs3 T u + j) % 2048) = nI (u' + 1) ∧ ∀ i, i < j → c42 ((hs3 T u + i) % 2048) ≠ 0) ∧
  sm (occ c42) 2048 = sp
section
variable {T : Tc} {t sp : Nat} {c114 : Int32} {c39 c40 c39' c40' : Nat → Int64} {c41 c42 c41' : Nat → Int32}
theorem TI_skip (h : TI T t sp c114 c39 c40 c41 c42) (hA : tA T t = -9) (e39 : ∀ u, u < t → c39' u = c39 u) (e40 : ∀ u, u < t → c40' u = c40 u) (e41 : ∀ u, u < t → c41' u = c41 u) (et : c41' t = -9) : TI T (t + 1) sp c114 c39' c40' c41' c42 := by
  obtain ⟨h1, h2, h3, h4, h5, h6, h7⟩ := h
  have lt : ∀ u, u < t + 1 → tA T u ≠ -9 → u < t := fun u hu hn => by
    have : u ≠ t := fun z => hn (by rw [z]; exact hA)
    omega
  refine ⟨h1, by omega, fun u hu => ⟨fun z => ?_, fun z => ?_⟩, fun u u' hu hu' z z' => ?_, fun s hs => ?_, fun u hu z => ?_, h7⟩
  · by_cases q : u = t
    · rw [q]; exact et
    · rw [e41 u (by omega)]; exact (h3 u (by omega)).1 z
  · have := lt u hu z
    rw [e41 u this, e39 u this, e40 u this]; exact (h3 u this).2 z
  · have a := lt u hu z
    have b := lt u' hu' z'
    rw [e41 u a, e41 u' b]; exact h4 u u' a b z z'
  · rcases h5 s hs with q | ⟨u, q1, q2, q3⟩
    · exact .inl q
    · exact .inr ⟨u, by omega, q2, q3⟩
  · obtain ⟨j, u', q1, q2, q3, q4, q5⟩ := h6 u (lt u hu z) z
    exact ⟨j, u', q1, by omega, q3, q4, q5⟩
theorem TI_old {u0 : Nat} (h : TI T t sp c114 c39 c40 c41 c42) (hu0 : u0 < t) (h1t : one3 T u0 t) (e39 : ∀ u, u < t → c39' u = c39 u) (e40 : ∀ u, u < t → c40' u = c40 u) (e41 : ∀ u, u < t → c41' u = c41 u) (et : c41' t = c41 u0) (f39 : c39' t = tR T t) (f40 : c40' t = tP T t) : TI T (t + 1) sp c114 c39' c40' c41' c42 := by
  obtain ⟨h1, h2, h3, h4, h5, h6, h7⟩ := h
  refine ⟨h1, by omega, fun u hu => ⟨fun z => ?_, fun z => ?_⟩, fun u u' hu hu' z z' => ?_, fun s hs => ?_, fun u hu z => ?_, h7⟩
  · by_cases q : u = t
    · rw [q] at z; exact absurd z h1t.2.1
    · rw [e41 u (by omega)]; exact (h3 u (by omega)).1 z
  · by_cases q : u = t
    · rw [q, et, f39, f40]; exact ⟨((h3 u0 hu0).2 h1t.1).1, rfl, rfl⟩
    · have : u < t := by omega
      rw [e41 u this, e39 u this, e40 u this]; exact (h3 u this).2 z
  · by_cases q : u = t
    · by_cases q' : u' = t
      · rw [q, q']; exact ⟨fun _ => one3_r h1t.2.1, fun _ => rfl⟩
      · rw [q, et, e41 u' (by omega), h4 u0 u' hu0 (by omega) h1t.1 z']
        exact ⟨fun x => one3_t (one3_s h1t) x, fun x => one3_t h1t x⟩
    · by_cases q' : u' = t
      · rw [q', et, e41 u (by omega), h4 u u0 (by omega) hu0 z h1t.1]
        exact ⟨fun x => one3_t x h1t, fun x => one3_t x (one3_s h1t)⟩
      · rw [e41 u (by omega), e41 u' (by omega)]; exact h4 u u' (by omega) (by omega) z z'
  · rcases h5 s hs with q | ⟨u, q1, q2, q3⟩
    · exact .inl q
    · exact .inr ⟨u, by omega, q2, q3⟩
  · by_cases q : u = t
    · obtain ⟨j, u', q1, q2, q3, q4, q5⟩ := h6 u0 hu0 h1t.1
      rw [q, ← hs3_e h1t]
      exact ⟨j, u', q1, by omega, one3_t q3 h1t, q4, q5⟩
    · obtain ⟨j, u', q1, q2, q3, q4, q5⟩ := h6 u (by omega) z
      exact ⟨j, u', q1, by omega, q3, q4, q5⟩
theorem TI_new {j0 : Nat} (ht : t < 1200) (h : TI T t sp c114 c39 c40 c41 c42) (hA : tA T t ≠ -9) (hj : j0 < 2048) (h0 : c42 ((hs3 T t + j0) % 2048) = 0) (hp : ∀ i, i < j0 → c42 ((hs3 T t + i) % 2048) ≠ 0 ∧ ∀ u', u' < t → c42 ((hs3 T t + i) % 2048) = nI (u' + 1) → ¬ one3 T u' t) (e39 : ∀ u, u < t → c39' u = c39 u) (e40 : ∀ u, u < t → c40' u = c40 u) (e41 : ∀ u, u < t → c41' u = c41 u) (et : c41' t = nI sp) (f39 : c39' t = tR T t) (f40 : c40' t = tP T t) :
    TI T (t + 1) (sp + 1) (nI (sp + 1)) c39' c40' c41' (upd c42 ((hs3 T t + j0) % 2048) (nI (t + 1))) := by
  obtain ⟨h1, h2, h3, h4, h5, h6, h7⟩ := h
  have hsl : (hs3 T t + j0) % 2048 < 2048 := Nat.mod_lt _ (by omega)
  generalize hsl' : (hs3 T t + j0) % 2048 = sl at *
  have nz : ∀ u, u < 1200 → nI (u + 1) ≠ 0 := fun u hu z => by
    have := nI_inj (a := u + 1) (b := 0) (by omega) (by omega) z
    omega
  have nw : ∀ u, u < t → tA T u ≠ -9 → ¬ one3 T u t := by
    intro u hu z x
    obtain ⟨j, u', q1, q2, q3, q4, q5⟩ := h6 u hu z
    rw [hs3_e x] at q4 q5
    rcases Nat.lt_trichotomy j j0 with y | y | y
    · exact (hp j y).2 u' q2 q4 (one3_t q3 x)
    · rw [y, hsl', h0] at q4
      exact nz u' (by omega) q4.symm
    · have := q5 j0 y
      rw [hsl'] at this
      exact this h0
  refine ⟨rfl, by omega, fun u hu => ⟨fun z => ?_, fun z => ?_⟩, fun u u' hu hu' z z' => ?_, fun s hs => ?_, fun u hu z => ?_, ?_⟩
  · by_cases q : u = t
    · rw [q] at z; exact absurd z hA
    · rw [e41 u (by omega)]; exact (h3 u (by omega)).1 z
  · by_cases q : u = t
    · rw [q, et, f39, f40]; exact ⟨⟨sp, by omega, rfl⟩, rfl, rfl⟩
    · have : u < t := by omega
      rw [e41 u this, e39 u this, e40 u this]
      obtain ⟨⟨s, s1, s2⟩, s3⟩ := (h3 u this).2 z
      exact ⟨⟨s, by omega, s2⟩, s3⟩
  · have ne : ∀ u, u < t → tA T u ≠ -9 → c41 u ≠ nI sp := by
      intro u hu z x
      obtain ⟨⟨s, s1, s2⟩, s3⟩ := (h3 u hu).2 z
      rw [s2] at x
      have := nI_inj (by omega) (by omega) x
      omega
    by_cases q : u = t
    · by_cases q' : u' = t
      · rw [q, q']; exact ⟨fun _ => one3_r hA, fun _ => rfl⟩
      · rw [q, et, e41 u' (by omega)]
        exact ⟨fun x => absurd x.symm (ne u' (by omega) z'), fun x => absurd (one3_s x) (nw u' (by omega) z')⟩
    · by_cases q' : u' = t
      · rw [q', et, e41 u (by omega)]
        exact ⟨fun x => absurd x (ne u (by omega) z), fun x => absurd x (nw u (by omega) z)⟩
      · rw [e41 u (by omega), e41 u' (by omega)]; exact h4 u u' (by omega) (by omega) z z'
  · by_cases q : s = sl
    · rw [q, pk_us]; exact .inr ⟨t, by omega, rfl, hA⟩
    · rw [pk_un q]
      rcases h5 s hs with q | ⟨u, q1, q2, q3⟩
      · exact .inl q
      · exact .inr ⟨u, by omega, q2, q3⟩
  · have keep : ∀ s, c42 s ≠ 0 → upd c42 sl (nI (t + 1)) s ≠ 0 := fun s z => by
      by_cases q : s = sl
      · rw [q, pk_us]; exact nz t ht
      · rw [pk_un q]; exact z
    by_cases q : u = t
    · subst q
      refine ⟨j0, u, hj, by omega, one3_r hA, by rw [hsl', pk_us], fun i hi => keep _ (hp i hi).1⟩
    · obtain ⟨j, u', q1, q2, q3, q4, q5⟩ := h6 u (by omega) z
      refine ⟨j, u', q1, by omega, q3, ?_, fun i hi => keep _ (q5 i hi)⟩
      rw [pk_un (fun x => by rw [x, h0] at q4; exact nz u' (by omega) q4.symm)]; exact q4
  · rw [sm_u (f := occ c42) (k := sl) 2048 hsl ?_ ?_, h7]
    · unfold occ; rw [pk_us, if_neg (nz t ht), if_pos h0]
    · intro i hi hn; unfold occ; rw [pk_un hn]
end
section
variable {T : Tc} {t sp : Nat} {M : Mem}
theorem so20 (ht : t < 1200) (hI : TI T t sp (M.1 114 0) (M.2.1 39) (M.2.1 40) (M.1 41) (M.1 42)) (hA : tA T t ≠ -9) (h39 : M.2.1 39 t = tR T t) (h40 : M.2.1 40 t = tP T t) (hAr : ∀ u, u < t → f_X9_arrayAt M (nI (u / 3)) (nI (u % 3)) = some (tA T u)) :
    ∀ r j f, j + r = 2048 → r < f → (∀ i, i < j → M.1 42 ((hs3 T t + i) % 2048) ≠ 0 ∧ ∀ u', u' < t → M.1 42 ((hs3 T t + i) % 2048) = nI (u' + 1) → ¬ one3 T u' t) →
    (∃ u', u' < t ∧ one3 T u' t ∧ f_X9_spotOf_20 f (nI t) (tA T t) (nI ((hs3 T t + j) % 2048)) (nI j) M = some (M.1 41 u', M)) ∨
    (∃ j', j' < 2048 ∧ M.1 42 ((hs3 T t + j') % 2048) = 0 ∧ (∀ i, i < j' → M.1 42 ((hs3 T t + i) % 2048) ≠ 0 ∧ ∀ u', u' < t → M.1 42 ((hs3 T t + i) % 2048) = nI (u' + 1) → ¬ one3 T u' t) ∧
      f_X9_spotOf_20 f (nI t) (tA T t) (nI ((hs3 T t + j) % 2048)) (nI j) M = some (nI sp, sI (sI M 42 ((hs3 T t + j') % 2048) (nI (t + 1))) 114 0 (nI (sp + 1)))) := by
  obtain ⟨h1, h2, h3, h4, h5, h6, h7⟩ := hI
  have hh := hs3_l T t
  intro r
  induction r with
  | zero =>
    intro j f hj hf hp
    have : sm (occ (M.1 42)) 2048 = 2048 := sm_one 2048 (fun s hs => by
      have := (hp ((s + (2048 - hs3 T t)) % 2048) (by omega)).1
      rw [show (hs3 T t + (s + (2048 - hs3 T t)) % 2048) % 2048 = s by omega] at this
      unfold occ; rw [if_neg this])
    omega
  | succ r ih =>
    intro j f hj hf hp
    obtain ⟨f, rfl⟩ : ∃ z, f = z + 1 := ⟨f - 1, by omega⟩
    have hsl : (hs3 T t + j) % 2048 < 2048 := Nat.mod_lt _ (by omega)
    rw [f_X9_spotOf_20, i_n2048, if_neg (nI_ge (by omega) (by omega))]
    simp only [ck_nI hsl (by decide : (2048 : Nat) < 2 ^ 31), nI_clamp (show (hs3 T t + j) % 2048 < 2 ^ 31 by omega)]
    rcases h5 _ hsl with q | ⟨u, q1, q2, q3⟩
    · rw [if_pos q]
      unfold f_X9_spotOf_119
      rw [ck_nI hsl (by decide), nI_clamp (by omega), sI_e, pk_us, sI_n (show (114 : Nat) ≠ 42 by decide), h1, nI_1, nI_1]
      refine .inr ⟨j, by omega, q, hp, ?_⟩
      rw [nI_pred]
    · obtain ⟨_, g39, g40⟩ := (h3 u q1).2 q3
      have hnz : ¬ nI (u + 1) = 0 := fun z => by
        have := nI_inj (a := u + 1) (b := 0) (by omega) (by omega) z
        omega
      have go : ¬ one3 T u t → (∃ u', u' < t ∧ one3 T u' t ∧ f_X9_spotOf_105 (f_X9_spotOf_20 f) (nI t) (tA T t) (nI ((hs3 T t + j) % 2048)) (nI j) M = some (M.1 41 u', M)) ∨
          (∃ j', j' < 2048 ∧ M.1 42 ((hs3 T t + j') % 2048) = 0 ∧ (∀ i, i < j' → M.1 42 ((hs3 T t + i) % 2048) ≠ 0 ∧ ∀ u', u' < t → M.1 42 ((hs3 T t + i) % 2048) = nI (u' + 1) → ¬ one3 T u' t) ∧
            f_X9_spotOf_105 (f_X9_spotOf_20 f) (nI t) (tA T t) (nI ((hs3 T t + j) % 2048)) (nI j) M = some (nI sp, sI (sI M 42 ((hs3 T t + j') % 2048) (nI (t + 1))) 114 0 (nI (sp + 1)))) := by
        intro hn
        unfold f_X9_spotOf_105
        rw [nI_1, nI_1, pk_andN (m := 2047) (show (hs3 T t + j) % 2048 + 1 < 2 ^ 32 by omega) 11 (by decide), show ((hs3 T t + j) % 2048 + 1) % 2 ^ 11 = (hs3 T t + (j + 1)) % 2048 by omega]
        refine ih (j + 1) f (by omega) (by omega) (fun i hi => ?_)
        by_cases z : i = j
        · rw [z, q2]
          refine ⟨hnz, fun u' hu' e => ?_⟩
          have := nI_inj (by omega) (by omega) e
          rw [show u' = u by omega]; exact hn
        · exact hp i (by omega)
      simp only [q2, nI_pred, nzI_3]
      rw [if_neg hnz]
      simp only [ck_nI (show u < 1200 by omega) (by decide : (1200 : Nat) < 2 ^ 31), ck_nI ht (by decide : (1200 : Nat) < 2 ^ 31), nI_clamp (show u < 2 ^ 31 by omega), nI_clamp (show t < 2 ^ 31 by omega), g39, g40, h39, h40, i_n3]
      rw [pk_rem (show u < 2 ^ 31 by omega) (show 0 < 3 by decide) (show 3 < 2 ^ 31 by decide), pk_div (show u < 2 ^ 31 by omega) (show 0 < 3 by decide) (show 3 < 2 ^ 31 by decide)]
      by_cases z1 : tR T u = tR T t
      · rw [if_pos z1]
        by_cases z2 : tP T u = tP T t
        · rw [if_pos z2, hAr u q1, bq_s]
          by_cases z3 : tA T u = tA T t
          · rw [if_pos z3]; exact .inl ⟨u, q1, ⟨q3, hA, z3, z1, z2⟩, rfl⟩
          · rw [if_neg z3]; exact go (fun x => z3 x.2.2.1)
        · rw [if_neg z2]; exact go (fun x => z2 x.2.2.2.2)
      · rw [if_neg z1]; exact go (fun x => z1 x.2.2.2.1)
end
def On8 (M M' : Mem) : Prop := (∀ c, c ≠ 41 → c ≠ 42 → c ≠ 114 → M'.1 c = M.1 c) ∧ (∀ c, c ≠ 39 → c ≠ 40 → M'.2.1 c = M.2.1 c) ∧ M'.2.2 = M.2.2
theorem On8_r (M : Mem) : On8 M M := ⟨fun _ _ _ _ => rfl, fun _ _ _ => rfl, rfl⟩
theorem On8_t {M M1 M2 : Mem} (h : On8 M M1) (g : On8 M1 M2) : On8 M M2 := ⟨fun c x y z => (g.1 c x y z).trans (h.1 c x y z), fun c x y => (g.2.1 c x y).trans (h.2.1 c x y), g.2.2.trans h.2.2⟩
/-- the aims as the class has them -/
def TcC (n : Nat) (T : Tc) (M : Mem) : Prop := ∀ v, v < n → ∀ w, w < 3 → ∃ a, a < 12 ∧ M.1 35 v = nI a ∧ M.1 18 (a * 3 + w) = T.1 v w ∧
  (T.1 v w = -9 ∨ ((∃ r, r < 8 ∧ T.1 v w = nI r) ∧ ∃ s p, s < 80 ∧ p < 80 ∧ M.1 19 (a * 3 + w) = nI s ∧ M.1 20 (a * 3 + w) = nI p ∧ T.2.1 v w = val (M.1 2) (M.1 4) (fun d => M.2.1 36 (v * 4 + d)) s ∧ T.2.2 v w = val (M.1 2) (M.1 4) (fun d => M.2.1 36 (v * 4 + d)) p))
theorem TcC_8 {n : Nat} {T : Tc} {M M' : Mem} (h : TcC n T M) (g : On8 M M') : TcC n T M' := by
  intro v hv w hw
  have := h v hv w hw
  rw [g.1 35 (by decide) (by decide) (by decide), g.1 18 (by decide) (by decide) (by decide), g.1 19 (by decide) (by decide) (by decide), g.1 20 (by decide) (by decide) (by decide), g.1 2 (by decide) (by decide) (by decide), g.1 4 (by decide) (by decide) (by decide), g.2.1 36 (by decide) (by decide)]
  exact this
theorem aA_eq {n : Nat} {T : Tc} {M : Mem} (hn : n ≤ 400) (h : TcC n T M) {v w : Nat} (hv : v < n) (hw : w < 3) : f_X9_arrayAt M (nI v) (nI w) = some (T.1 v w) := by
  obtain ⟨a, a1, a2, a3, _⟩ := h v hv w hw
  unfold f_X9_arrayAt
  rw [ck_nI (by omega) (by omega), nI_clamp (by omega), a2, i_n3, pk_mul, nI_add, ck_nI (by omega) (by omega), nI_clamp (by omega), a3]
def TIm (T : Tc) (t sp : Nat) (M : Mem) : Prop := TI T t sp (M.1 114 0) (M.2.1 39) (M.2.1 40) (M.1 41) (M.1 42)
section
variable {T : Tc} {n sp v w : Nat} {M : Mem}
theorem rk_t (hn : n ≤ 400) (hC : TcC n T M) (hv : v < n) (hw : w < 3) (hI : TIm T (v * 3 + w) sp M) : ∃ sp' M', f_X9_reckonTouch M (nI v) (nI w) = some M' ∧ On8 M M' ∧ TIm T (v * 3 + w + 1) sp' M' := by
  have hC0 := hC
  obtain ⟨a, a1, a2, a3, a4⟩ := hC v hv w hw
  have ed : (v * 3 + w) / 3 = v := by omega
  have em : (v * 3 + w) % 3 = w := by omega
  have eA : tA T (v * 3 + w) = T.1 v w := by unfold tA; rw [ed, em]
  have eR : tR T (v * 3 + w) = T.2.1 v w := by unfold tR; rw [ed, em]
  have eP : tP T (v * 3 + w) = T.2.2 v w := by unfold tP; rw [ed, em]
  unfold f_X9_reckonTouch
  simp only [i_n3, i_n4, nI_clamp (show v < 2 ^ 31 by omega), a2, pk_mul, nI_add, ck_nI (show v < 400 by omega) (by decide : (400 : Nat) < 2 ^ 31), ck_nI (show v * 3 + w < 1200 by omega) (by decide : (1200 : Nat) < 2 ^ 31), ck_nI (show a * 3 + w < 36 by omega) (by decide : (36 : Nat) < 2 ^ 31), nI_clamp (show v * 3 + w < 2 ^ 31 by omega), nI_clamp (show a * 3 + w < 2 ^ 31 by omega)]
  rw [sI_n (by decide), a3]
  have n41 : ∀ (x : Int32) (u : Nat), u < v * 3 + w → upd (M.1 41) (v * 3 + w) x u = M.1 41 u := fun x u hu => pk_un (by omega)
  rcases a4 with q | ⟨⟨r, r1, r2⟩, s, p, s1, p1, s2, p2, s3, p3⟩
  · rw [q, if_neg (by decide)]
    refine ⟨sp, _, rfl, ⟨fun c x y z => sI_n x, fun c x y => rfl, rfl⟩, ?_⟩
    unfold TIm
    rw [sI_n (show (114 : Nat) ≠ 41 by decide), sI_n (show (42 : Nat) ≠ 41 by decide), sI_e]
    exact TI_skip hI (by rw [eA]; exact q) (fun _ _ => rfl) (fun _ _ => rfl) (n41 _) pk_us
  · have hA : tA T (v * 3 + w) ≠ -9 := by rw [eA, r2]; exact nN9 (by omega)
    rw [if_pos (by rw [r2]; exact nI_pos' (by omega)), sI_n (by decide), s2, rl_eq s1 (by omega), bq_s, sI_n (by decide), sI_n (by decide), sI_2, ← s3, sL_1, sI_n (by decide), p2, rl_eq p1 (by omega), bq_s, sL_1, sI_n (by decide), sI_n (by decide), sL_n (by decide), sI_2, ← p3, sL_1, sL_1, sI_n (by decide), a3]
    generalize hM1 : sL (sL (sI M 41 (v * 3 + w) (-9)) 39 (v * 3 + w) (T.2.1 v w)) 40 (v * 3 + w) (T.2.2 v w) = M1
    have o1 : On8 M M1 := by rw [← hM1]; exact ⟨fun c x y z => sI_n x, fun c x y => by rw [sL_n y, sL_n x]; rfl, rfl⟩
    have e114 : M1.1 114 = M.1 114 := by rw [← hM1]; show (sI M 41 (v * 3 + w) (-9)).1 114 = _; exact sI_n (show (114 : Nat) ≠ 41 by decide)
    have e42 : M1.1 42 = M.1 42 := by rw [← hM1]; show (sI M 41 (v * 3 + w) (-9)).1 42 = _; exact sI_n (show (42 : Nat) ≠ 41 by decide)
    have e41 : M1.1 41 = upd (M.1 41) (v * 3 + w) (-9) := by rw [← hM1]; show (sI M 41 (v * 3 + w) (-9)).1 41 = _; exact sI_e
    have e39 : M1.2.1 39 = vp_updL (M.2.1 39) (v * 3 + w) (T.2.1 v w) := by rw [← hM1, sL_n (by decide), sL_e]; rfl
    have e40 : M1.2.1 40 = vp_updL (M.2.1 40) (v * 3 + w) (T.2.2 v w) := by rw [← hM1, sL_e, sL_n (by decide)]; rfl
    have f39 : M1.2.1 39 (v * 3 + w) = tR T (v * 3 + w) := by rw [e39, pk_uLs, eR]
    have f40 : M1.2.1 40 (v * 3 + w) = tP T (v * 3 + w) := by rw [e40, pk_uLs, eP]
    have g39 : ∀ u, u < v * 3 + w → M1.2.1 39 u = M.2.1 39 u := fun u hu => by rw [e39]; exact pk_uLn (by omega)
    have g40 : ∀ u, u < v * 3 + w → M1.2.1 40 u = M.2.1 40 u := fun u hu => by rw [e40]; exact pk_uLn (by omega)
    have g41 : ∀ u, u < v * 3 + w → M1.1 41 u = M.1 41 u := fun u hu => by rw [e41]; exact pk_un (by omega)
    have hI1 : TI T (v * 3 + w) sp (M1.1 114 0) (M1.2.1 39) (M1.2.1 40) (M1.1 41) (M1.1 42) := by
      obtain ⟨h1, h2, h3, h4, h5, h6, h7⟩ := hI
      rw [e114, e42]
      refine ⟨h1, h2, fun u hu => ?_, fun u u' hu hu' => ?_, h5, h6, h7⟩
      · rw [g39 u hu, g40 u hu, g41 u hu]; exact h3 u hu
      · rw [g41 u hu, g41 u' hu']; exact h4 u u' hu hu'
    have hC1 := TcC_8 hC0 o1
    have so := so20 (M := M1) (t := v * 3 + w) (by omega) hI1 hA f39 f40 (fun u hu => aA_eq hn hC1 (by omega) (by omega)) 2048 0 100000 (by omega) (by omega) (fun i hi => absurd hi (by omega))
    unfold f_X9_spotOf
    rw [ck_nI (by omega) (by omega), ck_nI (by omega) (by omega), nI_clamp (by omega), f39, f40, eR, eP, (sl_eq _ _ _).1, bq_s]
    have eh : hs3 T (v * 3 + w) = hsO (T.1 v w) (T.2.1 v w) (T.2.2 v w) := by unfold hs3; rw [eA, eR, eP]
    rw [eh, eA, Nat.add_zero, Nat.mod_eq_of_lt (sl_eq _ _ _).2] at so
    rcases so with ⟨u0, u1, u2, u3⟩ | ⟨j0, j1, j2, j3, j4⟩
    · have u3 : f_X9_spotOf_20 100000 (nI (v * 3 + w)) (T.1 v w) (nI (hsO (T.1 v w) (T.2.1 v w) (T.2.2 v w))) 0 M1 = _ := u3
      rw [u3, bd_s]
      refine ⟨sp, _, rfl, On8_t o1 ⟨fun c x y z => sI_n x, fun c x y => rfl, rfl⟩, ?_⟩
      unfold TIm
      rw [sI_n (show (114 : Nat) ≠ 41 by decide), sI_n (show (42 : Nat) ≠ 41 by decide), sI_e, sI_2]
      exact TI_old hI1 u1 u2 (fun _ _ => rfl) (fun _ _ => rfl) (fun u hu => pk_un (by omega)) pk_us f39 f40
    · have j4 : f_X9_spotOf_20 100000 (nI (v * 3 + w)) (T.1 v w) (nI (hsO (T.1 v w) (T.2.1 v w) (T.2.2 v w))) 0 M1 = _ := j4
      rw [j4, bd_s]
      refine ⟨sp + 1, _, rfl, On8_t o1 ⟨fun c x y z => by rw [sI_n x, sI_n z, sI_n y], fun c x y => rfl, rfl⟩, ?_⟩
      unfold TIm
      rw [sI_n (show (114 : Nat) ≠ 41 by decide), sI_e, pk_us, sI_n (show (42 : Nat) ≠ 41 by decide), sI_n (show (42 : Nat) ≠ 114 by decide), sI_e, sI_e, sI_n (show (41 : Nat) ≠ 114 by decide), sI_n (show (41 : Nat) ≠ 42 by decide), sI_2, sI_2, sI_2]
      rw [← eh] at j2 j3 ⊢
      exact TI_new (by omega) hI1 hA j1 j2 j3 (fun _ _ => rfl) (fun _ _ => rfl) (fun u hu => pk_un (by omega)) pk_us f39 f40
theorem rf36 {k23 : Int32 → Mem → Option Mem} (hn : n ≤ 400) (hv : v < n) :
    ∀ r w f sp M, w + r = 3 → r < f → TcC n T M → TIm T (v * 3 + w) sp M → ∃ sp' M', f_X9_refresh_36 k23 f (nI v) (nI w) M = k23 (nI (v + 1)) M' ∧ On8 M M' ∧ TIm T ((v + 1) * 3) sp' M' := by
  intro r
  induction r with
  | zero =>
    intro w f sp M hw hf hC hI
    obtain ⟨f, rfl⟩ : ∃ z, f = z + 1 := ⟨f - 1, by omega⟩
    rw [f_X9_refresh_36, i_n3, if_pos (nI_le (by omega) (by omega)), nI_1]
    exact ⟨sp, M, rfl, On8_r M, by rw [show (v + 1) * 3 = v * 3 + w by omega]; exact hI⟩
  | succ r ih =>
    intro w f sp M hw hf hC hI
    obtain ⟨f, rfl⟩ : ∃ z, f = z + 1 := ⟨f - 1, by omega⟩
    obtain ⟨sp1, M1, a1, a2, a3⟩ := rk_t hn hC hv (by omega) hI
    rw [f_X9_refresh_36, i_n3, if_neg (nI_ge (by omega) (by omega)), a1, bm_s, nI_1]
    obtain ⟨sp2, M2, b1, b2, b3⟩ := ih (w + 1) f sp1 M1 (by omega) (by omega) (TcC_8 hC a2) a3
    exact ⟨sp2, M2, b1, On8_t a2 b2, b3⟩
theorem rf23 (hn : n ≤ 400) : ∀ r v f sp M, v + r = n → r < f → M.1 110 0 = nI n → TcC n T M → TIm T (v * 3) sp M → ∃ sp' M', f_X9_refresh_23 f (nI v) M = some (sI M' 115 0 (bI true)) ∧ On8 M M' ∧ TIm T (n * 3) sp' M' := by
  intro r
  induction r with
  | zero =>
    intro v f sp M hv hf h110 hC hI
    obtain ⟨f, rfl⟩ : ∃ z, f = z + 1 := ⟨f - 1, by omega⟩
    have : v = n := by omega
    subst this
    rw [f_X9_refresh_23, h110, if_pos (nI_le (by omega) (by omega))]
    exact ⟨sp, M, rfl, On8_r M, hI⟩
  | succ r ih =>
    intro v f sp M hv hf h110 hC hI
    obtain ⟨f, rfl⟩ : ∃ z, f = z + 1 := ⟨f - 1, by omega⟩
    obtain ⟨sp1, M1, a1, a2, a3⟩ := rf36 (k23 := f_X9_refresh_23 f) (v := v) hn (by omega) 3 0 100000 sp M (by omega) (by omega) hC hI
    rw [f_X9_refresh_23, h110, if_neg (nI_ge (by omega) (by omega)), i_n0, a1]
    obtain ⟨sp2, M2, b1, b2, b3⟩ := ih (v + 1) f sp1 M1 (by omega) (by omega) (by rw [a2.1 110 (by decide) (by decide) (by decide)]; exact h110) (TcC_8 hC a2) a3
    exact ⟨sp2, M2, b1, On8_t a2 b2, b3⟩
end
theorem UW_of {T : Tc} {σ : Ws} {sp : Nat} {M : Mem} (hN : wN σ ≤ 400) (h : TIm T (wN σ * 3) sp M) : UW σ T (M.1 114 0) (M.2.1 39) (M.2.1 40) (M.1 41) := by
  obtain ⟨h1, h2, h3, h4, h5, h6, h7⟩ := h
  have e : ∀ v w, w < 3 → (v * 3 + w) / 3 = v ∧ (v * 3 + w) % 3 = w := fun v w hw => ⟨by omega, by omega⟩
  refine ⟨sp, h1, by omega, fun v hv w hw => ?_, fun v hv w hw v' hv' w' hw' z z' => ?_⟩
  · have := h3 (v * 3 + w) (by omega)
    unfold tA tR tP at this
    rw [(e v w hw).1, (e v w hw).2] at this
    exact this
  · have := h4 (v * 3 + w) (v' * 3 + w') (by omega) (by omega)
    unfold one3 tA tR tP at this
    rw [(e v w hw).1, (e v w hw).2, (e v' w' hw').1, (e v' w' hw').2] at this
    exact this z z'
section
variable {ns nn na nr nk : Nat} {Mc Mm : Mem}
/-- what the program and its aims say is touched -/
def tcM (nn : Nat) (M : Mem) : Tc := tcA (M.1 2) (M.1 4) (M.1 11) (M.1 12) (M.1 13) (wkA (pgM nn M))
theorem tcC_of (h : RelN ns nn na nr nk Mc Mm) (hV : VW na (Mc.1 16) (wkA (pgM nn Mm)) (Mc.1 110 0) (Mc.1 35) (Mc.2.1 36)) : TcC (wN (wkA (pgM nn Mm))) (tcM nn Mm) Mc := by
  intro v hv w hw
  have k1 := wk40 h v hv
  obtain ⟨⟨a, ha, a1, a2⟩, a3⟩ := hV.2.2 v hv
  have hna : na ≤ 12 := h.2.1.2.2.2.2.2.1
  have hns : ns ≤ 80 := h.1.2.2.2.1
  have hnr : nr ≤ 8 := h.2.2.2.2.1.2.2.1
  have ea : cN_ (Mc.1 16 a) = wA (wkA (pgM nn Mm)) v := by rw [a2]; exact cN_n' (by omega)
  have g := h.2.2.1.1 a ha w hw
  rw [ea] at g
  have e2 : Mc.1 2 = Mm.1 2 := h.1.2.2.2.2.1
  have e4 : Mc.1 4 = Mm.1 4 := h.1.2.2.2.2.2.2
  have eT : (tcM nn Mm).1 v w = Mm.1 11 (3 * wA (wkA (pgM nn Mm)) v + w) := if_pos ⟨hv, hw⟩
  refine ⟨a, by omega, a1, by rw [eT]; exact g.1, ?_⟩
  rw [eT, ← g.1]
  rcases g.2 with q | ⟨⟨r, r1, r2⟩, ⟨s, s1, s2⟩, ⟨p, p1, p2⟩, s3, p3⟩
  · exact .inl q
  · refine .inr ⟨⟨r, by omega, r2⟩, s, p, by omega, by omega, s2, p2, ?_, ?_⟩
    · have n9 : Mm.1 11 (3 * wA (wkA (pgM nn Mm)) v + w) ≠ -9 := by rw [← g.1, r2]; exact nN9 (by omega)
      show (if v < wN (wkA (pgM nn Mm)) ∧ w < 3 ∧ Mm.1 11 (3 * wA (wkA (pgM nn Mm)) v + w) ≠ -9 then val (Mm.1 2) (Mm.1 4) (fun d => wL (wkA (pgM nn Mm)) (v * 4 + d)) (cN_ (Mm.1 12 (3 * wA (wkA (pgM nn Mm)) v + w))) else 0) = _
      rw [if_pos ⟨hv, hw, n9⟩, ← s3, s2, cN_n' (by omega), e2, e4]
      exact val_h (fun d hd => (a3 d hd).symm)
    · have n9 : Mm.1 11 (3 * wA (wkA (pgM nn Mm)) v + w) ≠ -9 := by rw [← g.1, r2]; exact nN9 (by omega)
      show (if v < wN (wkA (pgM nn Mm)) ∧ w < 3 ∧ Mm.1 11 (3 * wA (wkA (pgM nn Mm)) v + w) ≠ -9 then val (Mm.1 2) (Mm.1 4) (fun d => wL (wkA (pgM nn Mm)) (v * 4 + d)) (cN_ (Mm.1 13 (3 * wA (wkA (pgM nn Mm)) v + w))) else 0) = _
      rw [if_pos ⟨hv, hw, n9⟩, ← p3, p2, cN_n' (by omega), e2, e4]
      exact val_h (fun d hd => (a3 d hd).symm)
/-- frames of what touching changes -/
def UFr (M M' : Mem) : Prop := (∀ c, c ≠ 41 → c ≠ 42 → c ≠ 114 → c ≠ 115 → M'.1 c = M.1 c) ∧ (∀ c, c ≠ 39 → c ≠ 40 → M'.2.1 c = M.2.1 c) ∧ M'.2.2 = M.2.2
theorem UFr_C {M M' : Mem} (h : UFr M M') : CFr M M' := ⟨fun c z => by unfold cRl at z; exact h.1 c (by omega) (by omega) (by omega) (by omega), h.2.1 101 (by decide) (by decide), h.2.1 68 (by decide) (by decide), h.2.2⟩
theorem touches (h : RelN ns nn na nr nk Mc Mm) (h113 : zb (Mc.1 113 0) = true) (h112 : zb (Mc.1 112 0) = false) :
    ∃ Mc1, f_X9_refresh Mc = some Mc1 ∧ RelN ns nn na nr nk Mc1 Mm ∧ UFr Mc Mc1 ∧ zb (Mc1.1 115 0) = true ∧ UW (wkA (pgM nn Mm)) (tcM nn Mm) (Mc1.1 114 0) (Mc1.2.1 39) (Mc1.2.1 40) (Mc1.1 41) := by
  have h8 := h.2.2.2.2.2.2.2
  by_cases q : zb (Mc.1 115 0) = true
  · refine ⟨Mc, by unfold f_X9_refresh; rw [if_pos q], h, ⟨fun _ _ _ _ _ => rfl, fun _ _ _ => rfl, rfl⟩, q, (h8.2.1 q).2.2⟩
  · have v := h8.1 h113
    have e : wS (wkA (pgM nn Mm)) = false := by rw [← v.1]; exact h112
    have hV := v.2 e
    have hC := tcC_of h hV
    have o0 : On8 Mc (fI (sI Mc 114 0 0) 42 0 2048 0) := ⟨fun c x y z => by rw [fI_n y, sI_n z], fun c x y => rfl, rfl⟩
    have hN4 := hV.2.1
    obtain ⟨sp, M', e1, e2, e3⟩ := rf23 (T := tcM nn Mm) hV.2.1 (wN (wkA (pgM nn Mm))) 0 100000 0 (fI (sI Mc 114 0 0) 42 0 2048 0) (by omega) (by omega) (by rw [o0.1 110 (by decide) (by decide) (by decide)]; exact hV.1) (TcC_8 hC o0) (by
      unfold TIm
      rw [fI_n (by decide), sI_e, pk_us, fI_e]
      refine ⟨rfl, by omega, fun u hu => absurd hu (by omega), fun u u' hu => absurd hu (by omega), fun s hs => .inl (fl_in ⟨by omega, hs⟩), fun u hu => absurd hu (by omega), ?_⟩
      have : ∀ n, n ≤ 2048 → sm (occ (fl_ ((sI Mc 114 0 0).1 42) 0 2048 0)) n = 0 := by
        intro n
        induction n with
        | zero => intro _; rfl
        | succ n ih =>
          intro hn
          show sm _ n + occ _ n = 0
          rw [ih (by omega)]
          unfold occ
          rw [if_pos (fl_in ⟨by omega, by omega⟩)]
      exact this 2048 (by omega))
    have e2 := On8_t o0 e2
    unfold f_X9_refresh
    rw [if_neg q]
    have hF : UFr Mc (sI M' 115 0 (bI true)) := ⟨fun c x y z w => by rw [sI_n w]; exact e2.1 c x y z, fun c x y => e2.2.1 c x y, e2.2.2⟩
    have hU : UW (wkA (pgM nn Mm)) (tcM nn Mm) ((sI M' 115 0 (bI true)).1 114 0) ((sI M' 115 0 (bI true)).2.1 39) ((sI M' 115 0 (bI true)).2.1 40) ((sI M' 115 0 (bI true)).1 41) := by
      rw [sI_n (by decide), sI_n (by decide), sI_2]; exact UW_of hV.2.1 e3
    have z115 : zb ((sI M' 115 0 (bI true)).1 115 0) = true := by rw [sI_e, pk_us]; decide
    refine ⟨_, e1, RelN_fr h (UFr_C hF) (MFr_r Mm) ?_, hF, z115, hU⟩
    have g : ∀ c, c ≠ 41 → c ≠ 42 → c ≠ 114 → c ≠ 115 → (sI M' 115 0 (bI true)).1 c = Mc.1 c := hF.1
    have g2 : ∀ c, c ≠ 39 → c ≠ 40 → (sI M' 115 0 (bI true)).2.1 c = Mc.2.1 c := hF.2.1
    unfold R8'
    rw [g 16 (by decide) (by decide) (by decide) (by decide), g 11 (by decide) (by decide) (by decide) (by decide), g 14 (by decide) (by decide) (by decide) (by decide), g 110 (by decide) (by decide) (by decide) (by decide), g 112 (by decide) (by decide) (by decide) (by decide), g 113 (by decide) (by decide) (by decide) (by decide), g 116 (by decide) (by decide) (by decide) (by decide), g 117 (by decide) (by decide) (by decide) (by decide), g 118 (by decide) (by decide) (by decide) (by decide), g 119 (by decide) (by decide) (by decide) (by decide), g 120 (by decide) (by decide) (by decide) (by decide), g 121 (by decide) (by decide) (by decide) (by decide), g 122 (by decide) (by decide) (by decide) (by decide), g 123 (by decide) (by decide) (by decide) (by decide), g 35 (by decide) (by decide) (by decide) (by decide), g2 36 (by decide) (by decide), g 44 (by decide) (by decide) (by decide) (by decide), g 45 (by decide) (by decide) (by decide) (by decide), g 46 (by decide) (by decide) (by decide) (by decide), g 47 (by decide) (by decide) (by decide) (by decide), g2 49 (by decide) (by decide), g2 50 (by decide) (by decide), g 57 (by decide) (by decide) (by decide) (by decide), g 59 (by decide) (by decide) (by decide) (by decide), g 62 (by decide) (by decide) (by decide) (by decide)]
    exact ⟨h8.1, fun _ => ⟨h113, h112, hU⟩, fun z => absurd (h8.2.2.1 z).1 q, h8.2.2.2.1, fun z => absurd (h8.2.2.2.2.1 z).2.1 q, h8.2.2.2.2.2⟩
/-- the reference touches -/
theorem touchM (h : RelN ns nn na nr nk Mc Mm) (hVM : VM (wkA (pgM nn Mm)) Mm) (hV : VW na (Mc.1 16) (wkA (pgM nn Mm)) (Mc.1 110 0) (Mc.1 35) (Mc.2.1 36)) :
    ∃ Mm1, f_X12_touchAll Mm = some Mm1 ∧ RelN ns nn na nr nk Mc Mm1 ∧ On7 Mm Mm1 ∧ VM (wkA (pgM nn Mm)) Mm1 ∧ TM (wkA (pgM nn Mm)) (tcM nn Mm) Mm1 := by
  obtain ⟨Mm1, e1, e2, e3⟩ := ta_all (M0 := Mm) (σ := wkA (pgM nn Mm)) hVM hV.2.1 (wk40 h) (fun v hv w hw z => by
    have k1 := wk40 h v hv
    have hns : ns ≤ 80 := h.1.2.2.2.1
    obtain ⟨⟨a, ha, a1, a2⟩, a3⟩ := hV.2.2 v hv
    have ea : cN_ (Mc.1 16 a) = wA (wkA (pgM nn Mm)) v := by rw [a2]; exact cN_n' (by omega)
    have g := h.2.2.1.1 a ha w hw
    rw [ea] at g
    rcases g.2 with q | ⟨⟨r, r1, r2⟩, ⟨s, s1, s2⟩, ⟨p, p1, p2⟩, s3, p3⟩
    · rw [g.1] at q; exact absurd q z
    · exact ⟨⟨s, by omega, by rw [← s3]; exact s2⟩, ⟨p, by omega, by rw [← p3]; exact p2⟩⟩)
  exact ⟨Mm1, e1, RelN_fr h (CFr_r Mc) (On7_M e2) (R8_m h.2.2.2.2.2.2.2 (On7_M e2)), e2, VM_7 hVM e2, e3⟩
end
