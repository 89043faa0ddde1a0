/-! the pure half: what is kept for undo -/
theorem k39 {M : Mem} {j na o nk : Nat} (hj : j < M.2.2.2.2.2 1) (h107 : M.1 107 0 = nI na) (hna : na ≤ 12) (h108 : M.1 108 0 = nI o) (ho : o < 20) (h109 : M.1 109 0 = nI nk) (hnk : nk ≤ 20) :
    ∃ M', f_X3_keep_39 j M = some M' ∧ (∀ c, c ≠ 108 → c ≠ 109 → M'.1 c = M.1 c) ∧ M'.2.1 = M.2.1 ∧ M'.2.2.1 = M.2.2.1 ∧ M'.2.2.2.2 = M.2.2.2.2 ∧
      M'.2.2.2.1 = va_up (va_up M.2.2.2.1 (4 * j + 2) (va_cpy (M.1 28) (M.2.2.2.1 (4 * j + 2)) 0 0 (na * 16 * 7))) (4 * j + 3) (va_cpy (M.1 29) (M.2.2.2.1 (4 * j + 3)) 0 0 na) ∧
      ((nk < 20 ∧ M'.1 108 0 = nI o ∧ M'.1 109 0 = nI (nk + 1)) ∨ (nk = 20 ∧ M'.1 108 0 = nI ((o + 1) % 20) ∧ M'.1 109 0 = nI 20)) := by
  unfold f_X3_keep_39 f_X7_take_kn
  have c0 : (0 : Int32).toNatClampNeg = 0 := by decide
  have e1 : ∀ k : Option Mem, ca 0 0 (nI (na * 16 * 7)) 1344 1344 k = k := fun k => ca_nI (a := 0) (b := 0) (by omega) (by omega) (by omega) (by omega)
  have e2 : ∀ k : Option Mem, ca 0 0 (nI na) 12 12 k = k := fun k => ca_nI (a := 0) (b := 0) (by omega) (by omega) (by omega) (by omega)
  rw [cN_n hj, h107, i_n16, i_n7, pk_mul, pk_mul, e1, e2, c0, nI_clamp (by omega), nI_clamp (by omega), bm_s]
  have t0 : va_up M.2.2.2.1 (4 * j + 2) (va_cpy (M.1 28) (M.2.2.2.1 (4 * j + 2)) 0 0 (na * 16 * 7)) (4 * j + 3) = M.2.2.2.1 (4 * j + 3) := va_up_ne _ _ (by omega)
  have t1 : (tIf (tIf M (4 * j + 2) (va_cpy (M.1 28) (M.2.2.2.1 (4 * j + 2)) 0 0 (na * 16 * 7))) (4 * j + 3) (va_cpy ((tIf M (4 * j + 2) (va_cpy (M.1 28) (M.2.2.2.1 (4 * j + 2)) 0 0 (na * 16 * 7))).1 29) ((tIf M (4 * j + 2) (va_cpy (M.1 28) (M.2.2.2.1 (4 * j + 2)) 0 0 (na * 16 * 7))).2.2.2.1 (4 * j + 3)) 0 0 na)).2.2.2.1 =
      va_up (va_up M.2.2.2.1 (4 * j + 2) (va_cpy (M.1 28) (M.2.2.2.1 (4 * j + 2)) 0 0 (na * 16 * 7))) (4 * j + 3) (va_cpy (M.1 29) (M.2.2.2.1 (4 * j + 3)) 0 0 na) := by
    show va_up (va_up M.2.2.2.1 (4 * j + 2) (va_cpy (M.1 28) (M.2.2.2.1 (4 * j + 2)) 0 0 (na * 16 * 7))) (4 * j + 3) (va_cpy (M.1 29) (va_up M.2.2.2.1 (4 * j + 2) (va_cpy (M.1 28) (M.2.2.2.1 (4 * j + 2)) 0 0 (na * 16 * 7)) (4 * j + 3)) 0 0 na) = _
    rw [t0]
  have t2 : (tIf (tIf M (4 * j + 2) (va_cpy (M.1 28) (M.2.2.2.1 (4 * j + 2)) 0 0 (na * 16 * 7))) (4 * j + 3) (va_cpy ((tIf M (4 * j + 2) (va_cpy (M.1 28) (M.2.2.2.1 (4 * j + 2)) 0 0 (na * 16 * 7))).1 29) ((tIf M (4 * j + 2) (va_cpy (M.1 28) (M.2.2.2.1 (4 * j + 2)) 0 0 (na * 16 * 7))).2.2.2.1 (4 * j + 3)) 0 0 na)).1 = M.1 := rfl
  have t3 : (tIf (tIf M (4 * j + 2) (va_cpy (M.1 28) (M.2.2.2.1 (4 * j + 2)) 0 0 (na * 16 * 7))) (4 * j + 3) (va_cpy ((tIf M (4 * j + 2) (va_cpy (M.1 28) (M.2.2.2.1 (4 * j + 2)) 0 0 (na * 16 * 7))).1 29) ((tIf M (4 * j + 2) (va_cpy (M.1 28) (M.2.2.2.1 (4 * j + 2)) 0 0 (na * 16 * 7))).2.2.2.1 (4 * j + 3)) 0 0 na)).2.2.2.2 = M.2.2.2.2 := rfl
  have t4 : (tIf (tIf M (4 * j + 2) (va_cpy (M.1 28) (M.2.2.2.1 (4 * j + 2)) 0 0 (na * 16 * 7))) (4 * j + 3) (va_cpy ((tIf M (4 * j + 2) (va_cpy (M.1 28) (M.2.2.2.1 (4 * j + 2)) 0 0 (na * 16 * 7))).1 29) ((tIf M (4 * j + 2) (va_cpy (M.1 28) (M.2.2.2.1 (4 * j + 2)) 0 0 (na * 16 * 7))).2.2.2.1 (4 * j + 3)) 0 0 na)).2.1 = M.2.1 := rfl
  have t5 : (tIf (tIf M (4 * j + 2) (va_cpy (M.1 28) (M.2.2.2.1 (4 * j + 2)) 0 0 (na * 16 * 7))) (4 * j + 3) (va_cpy ((tIf M (4 * j + 2) (va_cpy (M.1 28) (M.2.2.2.1 (4 * j + 2)) 0 0 (na * 16 * 7))).1 29) ((tIf M (4 * j + 2) (va_cpy (M.1 28) (M.2.2.2.1 (4 * j + 2)) 0 0 (na * 16 * 7))).2.2.2.1 (4 * j + 3)) 0 0 na)).2.2.1 = M.2.2.1 := rfl
  generalize tIf (tIf M (4 * j + 2) (va_cpy (M.1 28) (M.2.2.2.1 (4 * j + 2)) 0 0 (na * 16 * 7))) (4 * j + 3) (va_cpy ((tIf M (4 * j + 2) (va_cpy (M.1 28) (M.2.2.2.1 (4 * j + 2)) 0 0 (na * 16 * 7))).1 29) ((tIf M (4 * j + 2) (va_cpy (M.1 28) (M.2.2.2.1 (4 * j + 2)) 0 0 (na * 16 * 7))).2.2.2.1 (4 * j + 3)) 0 0 na) = T at *
  rw [t2, h109, h108]
  by_cases q : nk = 20
  · subst q
    have n20 : ∀ k : Option Mem, nzI (nI 20) k = k := fun k => nzI_ok (by decide)
    rw [if_pos (show (20 : Int32) ≤ nI 20 by decide), i_n20, n20, nI_1, pk_rem (by omega) (by omega) (by omega)]
    exact ⟨_, rfl, fun c a b => by rw [sI_n a, t2], t4, t5, t3, t1, .inr ⟨rfl, by rw [sI_e, pk_us], by rw [sI_n (by decide), t2]; exact h109⟩⟩
  · rw [if_neg (show ¬ (20 : Int32) ≤ nI nk from nI_ge (b := 20) (by omega) (by omega)), nI_1]
    exact ⟨_, rfl, fun c a b => by rw [sI_n b, t2], t4, t5, t3, t1, .inl ⟨by omega, by rw [sI_n (by decide), t2]; exact h108, by rw [sI_e, pk_us]⟩⟩
section
variable {ns nn na nr nk : Nat} {Mc Mm : Mem}
/-- keep(): what it leaves -/
theorem keep_ok (h : RelN ns nn na nr nk Mc Mm) : ∃ Mk, f_X3_keep Mc = some Mk ∧ (∀ c, c ≠ 108 → c ≠ 109 → Mk.1 c = Mc.1 c) ∧ Mk.2.1 = Mc.2.1 ∧ Mk.2.2.1 25 = Mc.2.2.1 25 ∧ Mk.2.2.2.2.1 = Mc.2.2.2.2.1 ∧ (∀ r, Mk.2.2.2.1 (4 * r) = Mc.2.2.2.1 (4 * r) ∧ Mk.2.2.2.1 (4 * r + 1) = Mc.2.2.2.1 (4 * r + 1)) ∧ Mk.2.2.2.2.2 0 = Mc.2.2.2.2.2 0 ∧ (∀ r, Mk.2.2.2.2.2 (r + 2) = Mc.2.2.2.2.2 (r + 2)) ∧
    ∃ s, (s = 0 ∧ nk < 20 ∨ s = 1 ∧ nk = 20) ∧ Mk.1 109 0 = nI (nk + 1 - s) ∧ ∀ m32' m33' : Nat → Int32, (∀ t, t < nk - s → ∀ k, k < 40 → m32' (40 * t + k) = Mm.1 32 (40 * (t + s) + k)) → (∀ t, t < nk - s → ∀ k, k < 4480 → m33' (4480 * t + k) = Mm.1 33 (4480 * (t + s) + k)) →
      (∀ k, k < 40 → m32' (40 * (nk - s) + k) = Mm.1 30 k) → (∀ k, k < 4480 → m33' (4480 * (nk - s) + k) = Mm.1 31 k) → ∃ o', o' < 20 ∧ Mk.1 108 0 = nI o' ∧ KW na (Mc.1 16) (Mc.1 11) (nk + 1 - s) o' (Mk.2.2.1 33) (Mk.2.2.2.2.2 1) Mk.2.2.2.1 m32' m33' := by
  obtain ⟨h1, h2, h3, h4, h5, h6, ⟨r1, r2, r3, r4, o, r5, r6, K1, K2, K3⟩, h8⟩ := h
  have hna : na ≤ 12 := h2.2.2.2.2.2.1
  have hn : nn ≤ 40 := h2.2.2.1
  have han : ∀ a, a < na → cN_ (Mc.1 16 a) < 40 := fun a ha => by
    obtain ⟨k, hk, e, _⟩ := h2.2.2.2.2.2.2.2.2.2.2.2.1 a ha
    rw [e, cN_n' (by omega)]; omega
  have hs20 : (o + nk) % 20 < 20 := Nat.mod_lt _ (by omega)
  have n20 : ∀ k : Option Mem, nzI (nI 20) k = k := fun k => nzI_ok (by decide)
  unfold f_X3_keep
  rw [r2, r6, nI_add, i_n20, n20, pk_rem (by omega) (by omega) (by omega)]
  simp only [ck_nI hs20 (by decide : (20 : Nat) < 2 ^ 31), nI_clamp (show (o + nk) % 20 < 2 ^ 31 by omega)]
  -- one sheet j in the slot, from a memory M that differs from Mc in that slot and in sheets that are new
  have main : ∀ (M : Mem) (j : Nat), M.1 = Mc.1 → M.2.1 = Mc.2.1 → M.2.2.1 25 = Mc.2.2.1 25 → M.2.2.1 33 ((o + nk) % 20) = some j → (∀ s', s' ≠ (o + nk) % 20 → M.2.2.1 33 s' = Mc.2.2.1 33 s') → M.2.2.2.2.1 = Mc.2.2.2.2.1 → (∀ r, M.2.2.2.1 (4 * r) = Mc.2.2.2.1 (4 * r) ∧ M.2.2.2.1 (4 * r + 1) = Mc.2.2.2.1 (4 * r + 1)) → M.2.2.2.2.2 0 = Mc.2.2.2.2.2 0 → (∀ r, M.2.2.2.2.2 (r + 2) = Mc.2.2.2.2.2 (r + 2)) → j < M.2.2.2.2.2 1 → Mc.2.2.2.2.2 1 ≤ M.2.2.2.2.2 1 →
      (∀ j', j' ≠ j → M.2.2.2.1 (4 * j' + 2) = Mc.2.2.2.1 (4 * j' + 2) ∧ M.2.2.2.1 (4 * j' + 3) = Mc.2.2.2.1 (4 * j' + 3)) → (∀ s', s' ≠ (o + nk) % 20 → Mc.2.2.1 33 s' ≠ some j) →
      ∃ Mk, f_X3_keep_39 j M = some Mk ∧ (∀ c, c ≠ 108 → c ≠ 109 → Mk.1 c = Mc.1 c) ∧ Mk.2.1 = Mc.2.1 ∧ Mk.2.2.1 25 = Mc.2.2.1 25 ∧ Mk.2.2.2.2.1 = Mc.2.2.2.2.1 ∧ (∀ r, Mk.2.2.2.1 (4 * r) = Mc.2.2.2.1 (4 * r) ∧ Mk.2.2.2.1 (4 * r + 1) = Mc.2.2.2.1 (4 * r + 1)) ∧ Mk.2.2.2.2.2 0 = Mc.2.2.2.2.2 0 ∧ (∀ r, Mk.2.2.2.2.2 (r + 2) = Mc.2.2.2.2.2 (r + 2)) ∧
    ∃ s, (s = 0 ∧ nk < 20 ∨ s = 1 ∧ nk = 20) ∧ Mk.1 109 0 = nI (nk + 1 - s) ∧ ∀ m32' m33' : Nat → Int32, (∀ t, t < nk - s → ∀ k, k < 40 → m32' (40 * t + k) = Mm.1 32 (40 * (t + s) + k)) → (∀ t, t < nk - s → ∀ k, k < 4480 → m33' (4480 * t + k) = Mm.1 33 (4480 * (t + s) + k)) →
      (∀ k, k < 40 → m32' (40 * (nk - s) + k) = Mm.1 30 k) → (∀ k, k < 4480 → m33' (4480 * (nk - s) + k) = Mm.1 31 k) → ∃ o', o' < 20 ∧ Mk.1 108 0 = nI o' ∧ KW na (Mc.1 16) (Mc.1 11) (nk + 1 - s) o' (Mk.2.2.1 33) (Mk.2.2.2.2.2 1) Mk.2.2.2.1 m32' m33' := by
    intro M j e1 e2 e25 e33 e33' eL eR eN0 eN hj hK eJ eU
    obtain ⟨Mk, k1, k2, k3, k4, k5, k6, k7⟩ := k39 (M := M) (j := j) (na := na) (o := o) (nk := nk) hj (by rw [e1]; exact h2.2.2.2.1) hna (by rw [e1]; exact r6) r5 (by rw [e1]; exact r2) r4
    rw [e1] at k6
    have d2 : ∀ j', j' ≠ j → Mk.2.2.2.1 (4 * j' + 2) = Mc.2.2.2.1 (4 * j' + 2) ∧ Mk.2.2.2.1 (4 * j' + 3) = Mc.2.2.2.1 (4 * j' + 3) := fun j' hj' => by
      rw [k6, va_up_ne _ _ (by omega), va_up_ne _ _ (by omega), va_up_ne _ _ (by omega), va_up_ne _ _ (by omega)]; exact eJ j' hj'
    have d3 : Mk.2.2.2.1 (4 * j + 2) = va_cpy (Mc.1 28) (M.2.2.2.1 (4 * j + 2)) 0 0 (na * 16 * 7) := by rw [k6, va_up_ne _ _ (by omega), va_up_self]
    have d4 : Mk.2.2.2.1 (4 * j + 3) = va_cpy (Mc.1 29) (M.2.2.2.1 (4 * j + 3)) 0 0 na := by rw [k6, va_up_self]
    have u33 : ∀ s', Mk.2.2.1 33 s' = if s' = (o + nk) % 20 then some j else Mc.2.2.1 33 s' := fun s' => by
      rw [k4]
      by_cases z : s' = (o + nk) % 20
      · rw [if_pos z, z]; exact e33
      · rw [if_neg z]; exact e33' s' z
    refine ⟨Mk, k1, fun c a b => by rw [k2 c a b, e1], by rw [k3, e2], by rw [k4, e25], by rw [k5, eL], fun r => ?_, by rw [k5, eN0], fun r => by rw [k5, eN r], ?_⟩
    · rw [k6, va_up_ne _ _ (by omega), va_up_ne _ _ (by omega), va_up_ne _ _ (by omega), va_up_ne _ _ (by omega)]; exact eR r
    · have P2 : ∀ s' j', Mk.2.2.1 33 s' = some j' → j' < Mk.2.2.2.2.2 1 := fun s' j' hz => by
        rw [u33] at hz
        rw [k5]
        by_cases z : s' = (o + nk) % 20
        · rw [if_pos z] at hz
          have := Option.some.inj hz; omega
        · rw [if_neg z] at hz
          have := K2 s' j' hz; omega
      have P3 : ∀ s' s'' j', Mk.2.2.1 33 s' = some j' → Mk.2.2.1 33 s'' = some j' → s' = s'' := fun s' s'' j' hz hy => by
        rw [u33] at hz hy
        by_cases z : s' = (o + nk) % 20
        · by_cases y : s'' = (o + nk) % 20
          · rw [z, y]
          · rw [if_pos z] at hz
            rw [if_neg y] at hy
            rw [← Option.some.inj hz] at hy
            exact absurd hy (eU s'' y)
        · by_cases y : s'' = (o + nk) % 20
          · rw [if_neg z] at hz
            rw [if_pos y] at hy
            rw [← Option.some.inj hy] at hz
            exact absurd hz (eU s' z)
          · rw [if_neg z] at hz
            rw [if_neg y] at hy
            exact K3 s' s'' j' hz hy
      have old : ∀ (m32' m33' : Nat → Int32) (t t' : Nat), t' < nk → (o + t') % 20 ≠ (o + nk) % 20 → (∀ k, k < 40 → m32' (40 * t + k) = Mm.1 32 (40 * t' + k)) → (∀ k, k < 4480 → m33' (4480 * t + k) = Mm.1 33 (4480 * t' + k)) →
          ∃ jj, Mk.2.2.1 33 ((o + t') % 20) = some jj ∧ OW na (Mc.1 16) (Mc.1 11) (Mk.2.2.2.1 (4 * jj + 3)) (Mk.2.2.2.1 (4 * jj + 2)) (fun k => m32' (40 * t + k)) (fun k => m33' (4480 * t + k)) := by
        intro m32' m33' t t' ht' hne q1 q2
        obtain ⟨jj, x1, x2⟩ := K1 t' ht'
        have nj : jj ≠ j := fun z => by rw [z] at x1; exact eU _ hne x1
        refine ⟨jj, by rw [u33, if_neg hne]; exact x1, ?_⟩
        rw [(d2 jj nj).1, (d2 jj nj).2]
        exact OW_congr x2 han (fun _ _ => rfl) (fun _ _ => rfl) (fun m hm => q1 m hm) (fun q hq => q2 q hq)
      have new : ∀ (m32' m33' : Nat → Int32) (t : Nat), (∀ k, k < 40 → m32' (40 * t + k) = Mm.1 30 k) → (∀ k, k < 4480 → m33' (4480 * t + k) = Mm.1 31 k) → OW na (Mc.1 16) (Mc.1 11) (Mk.2.2.2.1 (4 * j + 3)) (Mk.2.2.2.1 (4 * j + 2)) (fun k => m32' (40 * t + k)) (fun k => m33' (4480 * t + k)) := by
        intro m32' m33' t q1 q2
        rw [d3, d4]
        refine OW_congr r1 han (fun a ha => ?_) (fun q hq => ?_) (fun m hm => q1 m hm) (fun q hq => q2 q hq)
        · rw [pk_cpy_in (by omega) (by omega)]; exact ix (by omega)
        · rw [pk_cpy_in (by omega) (by omega)]; exact ix (by omega)
      rcases k7 with ⟨x1, x2, x3⟩ | ⟨x1, x2, x3⟩
      · refine ⟨0, .inl ⟨rfl, x1⟩, by rw [x3]; rfl, fun m32' m33' q1 q2 q3 q4 => ⟨o, r5, x2, fun t ht => ?_, P2, P3⟩⟩
        by_cases z : t = nk
        · subst z
          exact ⟨j, by rw [u33, if_pos rfl], new m32' m33' t q3 q4⟩
        · exact old m32' m33' t t (by omega) (by omega) (q1 t (by omega)) (q2 t (by omega))
      · refine ⟨1, .inr ⟨rfl, x1⟩, by rw [x3, x1], fun m32' m33' q1 q2 q3 q4 => ⟨(o + 1) % 20, Nat.mod_lt _ (by omega), x2, fun t ht => ?_, P2, P3⟩⟩
        subst x1
        by_cases z : t = 19
        · subst z
          exact ⟨j, by rw [u33, if_pos (by omega)], new m32' m33' 19 q3 q4⟩
        · obtain ⟨jj, y1, y2⟩ := old m32' m33' t (t + 1) (by omega) (by omega) (q1 t (by omega)) (q2 t (by omega))
          exact ⟨jj, by rw [show ((o + 1) % 20 + t) % 20 = (o + (t + 1)) % 20 by omega]; exact y1, y2⟩
  cases e33 : Mc.2.2.1 33 ((o + nk) % 20) with
  | some j =>
    rw [oq_s]
    exact main Mc j rfl rfl rfl e33 (fun _ _ => rfl) rfl (fun _ => ⟨rfl, rfl⟩) rfl (fun _ => rfl) (K2 _ j e33) (Nat.le_refl _) (fun _ _ => ⟨rfl, rfl⟩) (fun s' hs' z => hs' (K3 _ _ j z e33))
  | none =>
    rw [oq_n, cP_ok (fun k z => by have := K2 k _ z; omega)]
    have dN1 : (sQ (nKt Mc) 33 ((o + nk) % 20) (some (Mc.2.2.2.2.2 1))).2.2.2.2.2 1 = Mc.2.2.2.2.2 1 + 1 := by
      show va_up Mc.2.2.2.2.2 1 (Mc.2.2.2.2.2 1 + 1) 1 = _
      rw [va_up_self]
    refine main (sQ (nKt Mc) 33 ((o + nk) % 20) (some (Mc.2.2.2.2.2 1))) (Mc.2.2.2.2.2 1) rfl rfl ?_ ?_ (fun s' hs' => ?_) rfl (fun r => ⟨?_, ?_⟩) ?_ (fun r => ?_) (by rw [dN1]; omega) (by rw [dN1]; omega) (fun j' hj' => ⟨?_, ?_⟩) (fun s' hs' z => by have := K2 s' _ z; omega)
    · show va_up (Mc.2.2.1) 33 (va_up (Mc.2.2.1 33) ((o + nk) % 20) (some (Mc.2.2.2.2.2 1))) 25 = _
      rw [va_up_ne _ _ (by decide)]
    · show va_up (Mc.2.2.1) 33 (va_up (Mc.2.2.1 33) ((o + nk) % 20) (some (Mc.2.2.2.2.2 1))) 33 ((o + nk) % 20) = _
      rw [va_up_self, va_up_self]
    · show va_up (Mc.2.2.1) 33 (va_up (Mc.2.2.1 33) ((o + nk) % 20) (some (Mc.2.2.2.2.2 1))) 33 s' = _
      rw [va_up_self, va_up_ne _ _ hs']
    · show va_up (va_up Mc.2.2.2.1 (4 * Mc.2.2.2.2.2 1 + 2) (fun _ => 0)) (4 * Mc.2.2.2.2.2 1 + 3) (fun _ => 0) (4 * r) = _
      rw [va_up_ne _ _ (by omega), va_up_ne _ _ (by omega)]
    · show va_up (va_up Mc.2.2.2.1 (4 * Mc.2.2.2.2.2 1 + 2) (fun _ => 0)) (4 * Mc.2.2.2.2.2 1 + 3) (fun _ => 0) (4 * r + 1) = _
      rw [va_up_ne _ _ (by omega), va_up_ne _ _ (by omega)]
    · show va_up Mc.2.2.2.2.2 1 (Mc.2.2.2.2.2 1 + 1) 0 = _
      rw [va_up_ne _ _ (by decide)]
    · show va_up Mc.2.2.2.2.2 1 (Mc.2.2.2.2.2 1 + 1) (r + 2) = _
      rw [va_up_ne _ _ (by omega)]
    · show va_up (va_up Mc.2.2.2.1 (4 * Mc.2.2.2.2.2 1 + 2) (fun _ => 0)) (4 * Mc.2.2.2.2.2 1 + 3) (fun _ => 0) (4 * j' + 2) = _
      rw [va_up_ne _ _ (by omega), va_up_ne _ _ (by omega)]
    · show va_up (va_up Mc.2.2.2.1 (4 * Mc.2.2.2.2.2 1 + 2) (fun _ => 0)) (4 * Mc.2.2.2.2.2 1 + 3) (fun _ => 0) (4 * j' + 3) = _
      rw [va_up_ne _ _ (by omega), va_up_ne _ _ (by omega)]
/-- both sides keep, then change rows, then count the turn -/
theorem turn_done (h : RelN ns nn na nr nk Mc Mm) : ∃ Mk Mt, f_X3_keep Mc = some Mk ∧ f_X12_keepTried Mm = some Mt ∧ (∀ c, c ≠ 108 → c ≠ 109 → Mk.1 c = Mc.1 c) ∧ Mk.2.1 = Mc.2.1 ∧ (∀ c, c ≠ 34 → c ≠ 35 → Mt.1 c = Mm.1 c) ∧ Mt.2 = Mm.2 ∧ (∀ k, k < 40 → Mt.1 34 k = Mm.1 30 k) ∧ (∀ k, k < 4480 → Mt.1 35 k = Mm.1 31 k) ∧
    ∀ Mc2 Mm2, (∀ c, c ≠ 28 → c ≠ 29 → Mc2.1 c = Mk.1 c) → Mc2.2 = Mk.2 → (∀ c, c ≠ 30 → c ≠ 31 → Mm2.1 c = Mt.1 c) → (∀ c, c ≠ 36 → Mm2.2.1 c = Mt.2.1 c) → OW na (Mc.1 16) (Mc.1 11) (Mc2.1 29) (Mc2.1 28) (Mm2.1 30) (Mm2.1 31) →
      ∃ Mc3 Mm3, f_X11_turned Mc2 = some (1, Mc3) ∧ f_X12_turned Mm2 = some (1, Mm3) ∧ Rel Mc3 Mm3 := by
  obtain ⟨Mk, k1, k2, k3, k4, k5, k6, k7, k8, s, k9, k10, k11⟩ := keep_ok h
  obtain ⟨h1, h2, h3, h4, h5, h6, h7, h8⟩ := h
  refine ⟨Mk, _, k1, kt_eq Mm, k2, k3, fun c a b => by rw [yI_n b, yI_n a], rfl, fun k hk => ?_, fun k hk => ?_, ?_⟩
  · rw [yI_n (by decide), yI_e, pk_cpy_in (by omega) (by omega)]; exact ix (by omega)
  · rw [yI_e, pk_cpy_in (by omega) (by omega), yI_n (by decide)]; exact ix (by omega)
  · intro Mc2 Mm2 c1 c2 m1 m2 hO
    have mt : ∀ c, c ≠ 34 → c ≠ 35 → c ≠ 30 → c ≠ 31 → Mm2.1 c = Mm.1 c := fun c a b d e => by rw [m1 c d e, yI_n b, yI_n a]
    have h109 : Mm2.1 109 0 = nI nk := by rw [mt 109 (by decide) (by decide) (by decide) (by decide)]; exact h7.2.2.1
    obtain ⟨Mm3, t1, t2, t3, s', t4, t5, t6, t7, t8, t9⟩ := td_eq (M := Mm2) (K := nk) h7.2.2.2.1 h109
    have es : s' = s := by omega
    subst es
    have mm : ∀ c, c ≠ 30 → c ≠ 31 → c ≠ 32 → c ≠ 33 → c ≠ 34 → c ≠ 35 → c ≠ 109 → Mm3.1 c = Mm.1 c := fun c a b d e f g i => by rw [t2 c d e i, mt c f g a b]
    have ml : ∀ c, c ≠ 36 → Mm3.2.1 c = Mm.2.1 c := fun c a => by rw [t3, m2 c a]; rfl
    have cc : ∀ c, c ≠ 28 → c ≠ 29 → c ≠ 108 → c ≠ 109 → Mc2.1 c = Mc.1 c := fun c a b d e => by rw [c1 c a b, k2 c d e]
    obtain ⟨o', x1, x2, x3⟩ := k11 (Mm3.1 32) (Mm3.1 33) (fun t ht k hk => by rw [t6 t ht k hk, mt 32 (by decide) (by decide) (by decide) (by decide)]) (fun t ht k hk => by rw [t7 t ht k hk, mt 33 (by decide) (by decide) (by decide) (by decide)])
      (fun k hk => by rw [t8 k hk, m1 34 (by decide) (by decide), yI_n (by decide), yI_e, pk_cpy_in (by omega) (by omega)]; exact ix (by omega)) (fun k hk => by rw [t9 k hk, m1 35 (by decide) (by decide), yI_e, pk_cpy_in (by omega) (by omega), yI_n (by decide)]; exact ix (by omega))
    unfold f_X11_turned f_X11_ordersChanged
    rw [bm_s]
    refine ⟨_, Mm3, rfl, t1, ns, nn, na, nr, nk + 1 - s', ?_, ?_, ?_, ?_, ?_, ?_, ?_, ?_⟩
    · show R1 ns (Mc2.1 105 0) (Mm3.1 101 0) (Mc2.1 2) (Mc2.1 3) (Mc2.1 4) (Mm3.1 2) (Mm3.1 3) (Mm3.1 4)
      rw [cc 105 (by decide) (by decide) (by decide) (by decide), cc 2 (by decide) (by decide) (by decide) (by decide), cc 3 (by decide) (by decide) (by decide) (by decide), cc 4 (by decide) (by decide) (by decide) (by decide), mm 101 (by decide) (by decide) (by decide) (by decide) (by decide) (by decide) (by decide), mm 2 (by decide) (by decide) (by decide) (by decide) (by decide) (by decide) (by decide), mm 3 (by decide) (by decide) (by decide) (by decide) (by decide) (by decide) (by decide), mm 4 (by decide) (by decide) (by decide) (by decide) (by decide) (by decide) (by decide)]
      exact h1
    · show R2 ns nn na (Mc2.1 106 0) (Mc2.1 107 0) (Mm3.1 102 0) (Mm3.1 103 0) (Mc2.1 6) (Mc2.1 7) (Mc2.1 8) (Mc2.1 9) (Mc2.1 10) (Mc2.1 11) (Mc2.1 12) (Mc2.1 13) (Mc2.1 14) (Mc2.1 15) (Mc2.1 16) (Mc2.1 17) (Mm3.1 6) (Mm3.1 7) (Mm3.1 8) (Mm3.1 9) (Mm3.1 10)
      rw [cc 106 (by decide) (by decide) (by decide) (by decide), cc 107 (by decide) (by decide) (by decide) (by decide), cc 6 (by decide) (by decide) (by decide) (by decide), cc 7 (by decide) (by decide) (by decide) (by decide), cc 8 (by decide) (by decide) (by decide) (by decide), cc 9 (by decide) (by decide) (by decide) (by decide), cc 10 (by decide) (by decide) (by decide) (by decide), cc 11 (by decide) (by decide) (by decide) (by decide), cc 12 (by decide) (by decide) (by decide) (by decide), cc 13 (by decide) (by decide) (by decide) (by decide), cc 14 (by decide) (by decide) (by decide) (by decide), cc 15 (by decide) (by decide) (by decide) (by decide), cc 16 (by decide) (by decide) (by decide) (by decide), cc 17 (by decide) (by decide) (by decide) (by decide),
        mm 102 (by decide) (by decide) (by decide) (by decide) (by decide) (by decide) (by decide), mm 103 (by decide) (by decide) (by decide) (by decide) (by decide) (by decide) (by decide), mm 6 (by decide) (by decide) (by decide) (by decide) (by decide) (by decide) (by decide), mm 7 (by decide) (by decide) (by decide) (by decide) (by decide) (by decide) (by decide), mm 8 (by decide) (by decide) (by decide) (by decide) (by decide) (by decide) (by decide), mm 9 (by decide) (by decide) (by decide) (by decide) (by decide) (by decide) (by decide), mm 10 (by decide) (by decide) (by decide) (by decide) (by decide) (by decide) (by decide)]
      exact h2
    · show R3 ns na nr (Mc2.1 16) (Mc2.1 18) (Mc2.1 19) (Mc2.1 20) (Mm3.1 11) (Mm3.1 12) (Mm3.1 13)
      rw [cc 16 (by decide) (by decide) (by decide) (by decide), cc 18 (by decide) (by decide) (by decide) (by decide), cc 19 (by decide) (by decide) (by decide) (by decide), cc 20 (by decide) (by decide) (by decide) (by decide), mm 11 (by decide) (by decide) (by decide) (by decide) (by decide) (by decide) (by decide), mm 12 (by decide) (by decide) (by decide) (by decide) (by decide) (by decide) (by decide), mm 13 (by decide) (by decide) (by decide) (by decide) (by decide) (by decide) (by decide)]
      exact h3
    · show R4 nn (Mc2.1 22) (Mc2.1 23) (Mc2.1 24) (Mm3.1 14) (Mm3.1 15) (Mm3.1 16) (Mm3.1 17)
      rw [cc 22 (by decide) (by decide) (by decide) (by decide), cc 23 (by decide) (by decide) (by decide) (by decide), cc 24 (by decide) (by decide) (by decide) (by decide), mm 14 (by decide) (by decide) (by decide) (by decide) (by decide) (by decide) (by decide), mm 15 (by decide) (by decide) (by decide) (by decide) (by decide) (by decide) (by decide), mm 16 (by decide) (by decide) (by decide) (by decide) (by decide) (by decide) (by decide), mm 17 (by decide) (by decide) (by decide) (by decide) (by decide) (by decide) (by decide)]
      exact h4
    · show R5 nr (Mc2.1 100 0) (Mm3.1 104 0) (Mc2.2.2.1 25) Mc2.2.2.2.1 Mc2.2.2.2.2.1 Mc2.2.2.2.2.2 (Mm3.1 19) (Mm3.1 20) (Mm3.1 21) (Mm3.2.1 22)
      rw [cc 100 (by decide) (by decide) (by decide) (by decide), c2, k4, k5, mm 104 (by decide) (by decide) (by decide) (by decide) (by decide) (by decide) (by decide), mm 19 (by decide) (by decide) (by decide) (by decide) (by decide) (by decide) (by decide), mm 20 (by decide) (by decide) (by decide) (by decide) (by decide) (by decide) (by decide), mm 21 (by decide) (by decide) (by decide) (by decide) (by decide) (by decide) (by decide), ml 22 (by decide)]
      obtain ⟨a1, a2, a3, a4, a5, a6, a7⟩ := h5
      refine ⟨a1, a2, a3, by rw [k7]; exact a4, a5, a6, fun r hr => ?_⟩
      obtain ⟨b1, b2, b3, b4⟩ := a7 r hr
      rw [k8 r, (k6 r).1, (k6 r).2]
      exact ⟨b1, b2, b3, b4⟩
    · show R6 (Mc2.2.1 101 0) (Mm3.2.1 105 0) (Mc2.1 102 0) (Mm3.1 100 0) (Mc2.1 103 0) (Mc2.1 104 0) (Mc2.1 67) (Mm3.1 1) (Mm3.1 40) (Mc2.2.1 68)
      rw [c2, k3, ml 105 (by decide), cc 102 (by decide) (by decide) (by decide) (by decide), cc 103 (by decide) (by decide) (by decide) (by decide), cc 104 (by decide) (by decide) (by decide) (by decide), cc 67 (by decide) (by decide) (by decide) (by decide), mm 100 (by decide) (by decide) (by decide) (by decide) (by decide) (by decide) (by decide), mm 1 (by decide) (by decide) (by decide) (by decide) (by decide) (by decide) (by decide), mm 40 (by decide) (by decide) (by decide) (by decide) (by decide) (by decide) (by decide)]
      exact h6
    · show R7 na (nk + 1 - s') (Mc2.1 16) (Mc2.1 11) (Mc2.1 28) (Mc2.1 29) (Mm3.1 30) (Mm3.1 31) (Mc2.1 108 0) (Mc2.1 109 0) (Mm3.1 109 0) (Mc2.2.2.1 33) (Mc2.2.2.2.2.2 1) Mc2.2.2.2.1 (Mm3.1 32) (Mm3.1 33)
      rw [cc 16 (by decide) (by decide) (by decide) (by decide), cc 11 (by decide) (by decide) (by decide) (by decide), t2 30 (by decide) (by decide) (by decide), t2 31 (by decide) (by decide) (by decide), c1 108 (by decide) (by decide), c1 109 (by decide) (by decide), c2]
      have := h7.2.2.2.1
      exact ⟨hO, k10, t5, by omega, o', x1, x2, x3⟩
    · show R8 na (Mc2.1 16) (Mc2.1 11) (Mc2.1 14) (nn, Mm3.1 2, Mm3.1 4, Mm3.1 6, Mm3.1 7, Mm3.1 8, Mm3.1 9, Mm3.1 10) (Mm3.1 11) (Mm3.1 12) (Mm3.1 13) (Mm3.1 30) (Mm3.1 31) (Mc2.1 110 0) (Mc2.1 112 0) (Mc2.1 113 0) (Mc2.1 114 0) (Mc2.1 115 0) (Mc2.1 116 0) (bI false) (Mc2.1 118 0) (Mc2.1 119 0) (Mc2.1 120 0) (bI false) (Mc2.1 122 0) (bI false)
        (Mc2.1 35) (Mc2.2.1 36) (Mc2.2.1 39) (Mc2.2.1 40) (Mc2.1 41) (Mc2.1 44) (Mc2.1 45) (Mc2.1 46) (Mc2.1 47) (Mc2.2.1 49) (Mc2.2.1 50) (Mc2.1 57) (Mc2.1 59) (Mc2.1 62)
      rw [c2, k3, cc 16 (by decide) (by decide) (by decide) (by decide), cc 11 (by decide) (by decide) (by decide) (by decide), cc 14 (by decide) (by decide) (by decide) (by decide), cc 110 (by decide) (by decide) (by decide) (by decide), cc 112 (by decide) (by decide) (by decide) (by decide), cc 113 (by decide) (by decide) (by decide) (by decide), cc 114 (by decide) (by decide) (by decide) (by decide), cc 115 (by decide) (by decide) (by decide) (by decide), cc 116 (by decide) (by decide) (by decide) (by decide), cc 35 (by decide) (by decide) (by decide) (by decide), cc 41 (by decide) (by decide) (by decide) (by decide), cc 44 (by decide) (by decide) (by decide) (by decide), cc 45 (by decide) (by decide) (by decide) (by decide), cc 46 (by decide) (by decide) (by decide) (by decide), cc 47 (by decide) (by decide) (by decide) (by decide),
        mm 2 (by decide) (by decide) (by decide) (by decide) (by decide) (by decide) (by decide), mm 4 (by decide) (by decide) (by decide) (by decide) (by decide) (by decide) (by decide), mm 6 (by decide) (by decide) (by decide) (by decide) (by decide) (by decide) (by decide), mm 7 (by decide) (by decide) (by decide) (by decide) (by decide) (by decide) (by decide), mm 8 (by decide) (by decide) (by decide) (by decide) (by decide) (by decide) (by decide), mm 9 (by decide) (by decide) (by decide) (by decide) (by decide) (by decide) (by decide), mm 10 (by decide) (by decide) (by decide) (by decide) (by decide) (by decide) (by decide), mm 11 (by decide) (by decide) (by decide) (by decide) (by decide) (by decide) (by decide), mm 12 (by decide) (by decide) (by decide) (by decide) (by decide) (by decide) (by decide), mm 13 (by decide) (by decide) (by decide) (by decide) (by decide) (by decide) (by decide)]
      exact R8_ord h8
end
