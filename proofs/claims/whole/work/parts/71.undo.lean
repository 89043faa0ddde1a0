/-! the pure half: undo -/
section
variable {ns nn na nr nk nk' : Nat} {Mc Mm : Mem}
/-- orders alone have changed, and what hangs on them is off -/
theorem RelN_o (h : RelN ns nn na nr nk Mc Mm) {Mc2 Mm2 : Mem} (cc : ∀ c, c ≠ 28 → c ≠ 29 → c ≠ 31 → c ≠ 32 → c ≠ 108 → c ≠ 109 → c ≠ 117 → c ≠ 118 → c ≠ 119 → c ≠ 120 → c ≠ 121 → c ≠ 122 → c ≠ 123 → c ≠ 57 → c ≠ 58 → c ≠ 59 → c ≠ 60 → c ≠ 61 → c ≠ 62 → c ≠ 64 → c ≠ 124 → c ≠ 125 → Mc2.1 c = Mc.1 c)
    (cl : ∀ c, c ≠ 56 → c ≠ 65 → c ≠ 66 → Mc2.2.1 c = Mc.2.1 c) (c22 : Mc2.2.2 = Mc.2.2) (mm : ∀ c, mRl c → c ≠ 30 → c ≠ 31 → c ≠ 32 → c ≠ 33 → c ≠ 109 → Mm2.1 c = Mm.1 c) (m22 : Mm2.2.1 22 = Mm.2.1 22) (m105 : Mm2.2.1 105 = Mm.2.1 105)
    (f117 : Mc2.1 117 0 = bI false) (f121 : Mc2.1 121 0 = bI false) (f123 : Mc2.1 123 0 = bI false)
    (h7' : R7 na nk' (Mc.1 16) (Mc.1 11) (Mc2.1 28) (Mc2.1 29) (Mm2.1 30) (Mm2.1 31) (Mc2.1 108 0) (Mc2.1 109 0) (Mm2.1 109 0) (Mc.2.2.1 33) (Mc.2.2.2.2.2 1) Mc.2.2.2.1 (Mm2.1 32) (Mm2.1 33)) : RelN ns nn na nr nk' Mc2 Mm2 := by
  obtain ⟨h1, h2, h3, h4, h5, h6, h7, h8⟩ := h
  have ca : ∀ c, c ≤ 27 → Mc2.1 c = Mc.1 c := fun c q => cc c (by omega) (by omega) (by omega) (by omega) (by omega) (by omega) (by omega) (by omega) (by omega) (by omega) (by omega) (by omega) (by omega) (by omega) (by omega) (by omega) (by omega) (by omega) (by omega) (by omega) (by omega) (by omega)
  have cs : ∀ c, 100 ≤ c → c ≤ 116 → c ≠ 108 → c ≠ 109 → Mc2.1 c = Mc.1 c := fun c q r s t => cc c (by omega) (by omega) (by omega) (by omega) s t (by omega) (by omega) (by omega) (by omega) (by omega) (by omega) (by omega) (by omega) (by omega) (by omega) (by omega) (by omega) (by omega) (by omega) (by omega) (by omega)
  have cm : ∀ c, 33 ≤ c → c ≤ 55 → Mc2.1 c = Mc.1 c := fun c q r => cc c (by omega) (by omega) (by omega) (by omega) (by omega) (by omega) (by omega) (by omega) (by omega) (by omega) (by omega) (by omega) (by omega) (by omega) (by omega) (by omega) (by omega) (by omega) (by omega) (by omega) (by omega) (by omega)
  have ma : ∀ c, mRl c → c ≤ 29 ∨ (40 ≤ c ∧ c ≤ 104) → Mm2.1 c = Mm.1 c := fun c q r => mm c q (by omega) (by omega) (by omega) (by omega) (by omega)
  refine ⟨?_, ?_, ?_, ?_, ?_, ?_, ?_, ?_⟩
  · rw [cs 105 (by omega) (by omega) (by omega) (by omega), ca 2 (by omega), ca 3 (by omega), ca 4 (by omega), ma 101 (by unfold mRl; omega) (by omega), ma 2 (by unfold mRl; omega) (by omega), ma 3 (by unfold mRl; omega) (by omega), ma 4 (by unfold mRl; omega) (by omega)]
    exact h1
  · rw [cs 106 (by omega) (by omega) (by omega) (by omega), cs 107 (by omega) (by omega) (by omega) (by omega), ma 102 (by unfold mRl; omega) (by omega), ma 103 (by unfold mRl; omega) (by omega), ca 6 (by omega), ca 7 (by omega), ca 8 (by omega), ca 9 (by omega), ca 10 (by omega), ca 11 (by omega), ca 12 (by omega), ca 13 (by omega), ca 14 (by omega), ca 15 (by omega), ca 16 (by omega), ca 17 (by omega),
      ma 6 (by unfold mRl; omega) (by omega), ma 7 (by unfold mRl; omega) (by omega), ma 8 (by unfold mRl; omega) (by omega), ma 9 (by unfold mRl; omega) (by omega), ma 10 (by unfold mRl; omega) (by omega)]
    exact h2
  · rw [ca 16 (by omega), ca 18 (by omega), ca 19 (by omega), ca 20 (by omega), ma 11 (by unfold mRl; omega) (by omega), ma 12 (by unfold mRl; omega) (by omega), ma 13 (by unfold mRl; omega) (by omega)]
    exact h3
  · rw [ca 22 (by omega), ca 23 (by omega), ca 24 (by omega), ma 14 (by unfold mRl; omega) (by omega), ma 15 (by unfold mRl; omega) (by omega), ma 16 (by unfold mRl; omega) (by omega), ma 17 (by unfold mRl; omega) (by omega)]
    exact h4
  · rw [cs 100 (by omega) (by omega) (by omega) (by omega), ma 104 (by unfold mRl; omega) (by omega), c22, ma 19 (by unfold mRl; omega) (by omega), ma 20 (by unfold mRl; omega) (by omega), ma 21 (by unfold mRl; omega) (by omega), m22]
    exact h5
  · rw [cl 101 (by decide) (by decide) (by decide), cl 68 (by decide) (by decide) (by decide), m105, cs 102 (by omega) (by omega) (by omega) (by omega), ma 100 (by unfold mRl; omega) (by omega), cs 103 (by omega) (by omega) (by omega) (by omega), cs 104 (by omega) (by omega) (by omega) (by omega), cc 67 (by decide) (by decide) (by decide) (by decide) (by decide) (by decide) (by decide) (by decide) (by decide) (by decide) (by decide) (by decide) (by decide) (by decide) (by decide) (by decide) (by decide) (by decide) (by decide) (by decide) (by decide) (by decide), ma 1 (by unfold mRl; omega) (by omega), ma 40 (by unfold mRl; omega) (by omega)]
    exact h6
  · rw [ca 16 (by omega), ca 11 (by omega), c22]
    exact h7'
  · have ep : pgM nn Mm2 = pgM nn Mm := by
      unfold pgM
      rw [ma 2 (by unfold mRl; omega) (by omega), ma 4 (by unfold mRl; omega) (by omega), ma 6 (by unfold mRl; omega) (by omega), ma 7 (by unfold mRl; omega) (by omega), ma 8 (by unfold mRl; omega) (by omega), ma 9 (by unfold mRl; omega) (by omega), ma 10 (by unfold mRl; omega) (by omega)]
    rw [ep, f117, f121, f123, ca 16 (by omega), ca 11 (by omega), ca 14 (by omega), ma 11 (by unfold mRl; omega) (by omega), ma 12 (by unfold mRl; omega) (by omega), ma 13 (by unfold mRl; omega) (by omega), cs 110 (by omega) (by omega) (by omega) (by omega), cs 112 (by omega) (by omega) (by omega) (by omega), cs 113 (by omega) (by omega) (by omega) (by omega), cs 114 (by omega) (by omega) (by omega) (by omega), cs 115 (by omega) (by omega) (by omega) (by omega), cs 116 (by omega) (by omega) (by omega) (by omega), cm 35 (by omega) (by omega), cl 36 (by decide) (by decide) (by decide), cl 39 (by decide) (by decide) (by decide), cl 40 (by decide) (by decide) (by decide), cm 41 (by omega) (by omega), cm 44 (by omega) (by omega), cm 45 (by omega) (by omega), cm 46 (by omega) (by omega), cm 47 (by omega) (by omega), cl 49 (by decide) (by decide) (by decide), cl 50 (by decide) (by decide) (by decide)]
    exact R8_ord h8
end
theorem ud56 {K : Nat} (hK : K < 20) : ∀ m k fuel M, k + m = 4480 → m < fuel → M.1 109 0 = nI K → f_X12_undo_56 fuel (nI k) M = some (nI K, yI M 33 (4480 * K + k) 31 k m) := by
  intro m
  induction m with
  | zero =>
    intro k fuel M hk hf h
    obtain ⟨f, rfl⟩ : ∃ f, fuel = f + 1 := ⟨fuel - 1, by omega⟩
    rw [f_X12_undo_56, i_n4480, if_pos (nI_le (by omega) (by omega)), yI_nil, h]
  | succ m ih =>
    intro k fuel M hk hf h
    obtain ⟨f, rfl⟩ : ∃ f, fuel = f + 1 := ⟨fuel - 1, by omega⟩
    rw [f_X12_undo_56, i_n4480, if_neg (nI_ge (by omega) (by omega)), h, pk_mul, nI_add, ck_nI (by omega) (by omega), ck_nI (by omega) (by omega), nI_clamp (by omega), nI_clamp (by omega), nI_1, ih (k + 1) f _ (by omega) (by omega) (by rw [sI_n (by decide)]; exact h), ← Nat.add_assoc, yI_step (by decide)]
theorem ud22 {K : Nat} (hK : K < 20) : ∀ m k fuel M, k + m = 40 → m < fuel → M.1 109 0 = nI K → f_X12_undo_22 fuel (nI k) M = f_X12_undo_56 100000 0 (yI M 32 (40 * K + k) 30 k m) := by
  intro m
  induction m with
  | zero =>
    intro k fuel M hk hf h
    obtain ⟨f, rfl⟩ : ∃ f, fuel = f + 1 := ⟨fuel - 1, by omega⟩
    rw [f_X12_undo_22, i_n40, if_pos (nI_le (by omega) (by omega)), yI_nil]
  | succ m ih =>
    intro k fuel M hk hf h
    obtain ⟨f, rfl⟩ : ∃ f, fuel = f + 1 := ⟨fuel - 1, by omega⟩
    rw [f_X12_undo_22, i_n40, if_neg (nI_ge (by omega) (by omega)), h, pk_mul, nI_add, ck_nI (by omega) (by omega), ck_nI (by omega) (by omega), nI_clamp (by omega), nI_clamp (by omega), nI_1, ih (k + 1) f _ (by omega) (by omega) (by rw [sI_n (by decide)]; exact h), ← Nat.add_assoc, yI_step (by decide)]
theorem sim_undo : Sim_undo Rel := by
  intro Mc Mm ⟨ns, nn, na, nr, nk, h⟩
  have h2 := h.2.1
  have h7 := h.2.2.2.2.2.2.1
  have hn : nn ≤ 40 := h2.2.2.1
  have hna : na ≤ 12 := h2.2.2.2.2.2.1
  unfold f_X11_undo f_X12_undo
  rw [h7.2.1, h7.2.2.1]
  by_cases q : nk = 0
  · subst q
    rw [if_neg (by decide), if_pos nI_0]; exact same_go h _
  · obtain ⟨K, rfl⟩ : ∃ K, nk = K + 1 := ⟨nk - 1, by omega⟩
    obtain ⟨r1, r2, r3, r4, o, r5, r6, K1, K2, K3⟩ := h7
    obtain ⟨j, j1, j2⟩ := K1 K (by omega)
    have han : ∀ a, a < na → cN_ (Mc.1 16 a) < 40 := fun a ha => by
      obtain ⟨k, hk, e, _⟩ := h2.2.2.2.2.2.2.2.2.2.2.2.1 a ha
      rw [e, cN_n' (by omega)]; omega
    rw [if_pos (show (0 : Int32) < nI (K + 1) from nI_lt (a := 0) (by omega) (by omega)), if_neg (nI_ne0 (by omega) (by omega)), nI_pred]
    have e109 : (sI Mm 109 0 (nI K)).1 109 0 = nI K := by rw [sI_e, pk_us]
    have u1 := ud22 (K := K) (by omega) 40 0 100000 (sI Mm 109 0 (nI K)) rfl (by omega) e109
    have u2 := ud56 (K := K) (by omega) 4480 0 100000 (yI (sI Mm 109 0 (nI K)) 32 (40 * K + 0) 30 0 40) rfl (by omega) (by rw [yI_n (by decide)]; exact e109)
    have u3 : f_X12_undo_22 100000 0 (sI Mm 109 0 (nI K)) = some (nI K, yI (yI (sI Mm 109 0 (nI K)) 32 (40 * K + 0) 30 0 40) 33 (4480 * K + 0) 31 0 4480) := u1.trans u2
    rw [u3]
    unfold f_X3_takeBack
    rw [r2, nI_pred]
    have c108 : (sI Mc 109 0 (nI K)).1 108 0 = nI o := by rw [sI_n (by decide)]; exact r6
    have c109 : (sI Mc 109 0 (nI K)).1 109 0 = nI K := by rw [sI_e, pk_us]
    have c107 : (sI Mc 109 0 (nI K)).1 107 0 = nI na := by rw [sI_n (by decide)]; exact h2.2.2.2.1
    have n20 : ∀ k : Option Mem, nzI (nI 20) k = k := fun k => nzI_ok (by decide)
    have hs20 : (o + K) % 20 < 20 := Nat.mod_lt _ (by omega)
    have c33 : (sI Mc 109 0 (nI K)).2.2.1 33 ((o + K) % 20) = some j := j1
    have cK : (sI Mc 109 0 (nI K)).2.2.2.2.2 1 = Mc.2.2.2.2.2 1 := rfl
    rw [c108, c109, c107, nI_add, i_n20, n20, pk_rem (by omega) (by omega) (by omega), ck_nI hs20 (by omega), nI_clamp (by omega), c33, oq_s, cK, cN_n (K2 _ j j1)]
    unfold f_X7_take_nk
    have c0 : (0 : Int32).toNatClampNeg = 0 := by decide
    have e1 : ∀ k : Option Mem, ca 0 0 (nI (na * 16 * 7)) 1344 1344 k = k := fun k => ca_nI (a := 0) (b := 0) (by omega) (by omega) (by omega) (by omega)
    have e2 : ∀ k : Option Mem, ca 0 0 (nI na) 12 12 k = k := fun k => ca_nI (a := 0) (b := 0) (by omega) (by omega) (by omega) (by omega)
    rw [i_n16, i_n7, pk_mul, pk_mul, e1, e2, c0, nI_clamp (by omega), nI_clamp (by omega), bm_s, bm_s]
    unfold f_X11_ordersChanged
    rw [bm_s]
    have e29 : (zI (sI Mc 109 0 (nI K)) 28 (va_cpy ((sI Mc 109 0 (nI K)).2.2.2.1 (4 * j + 2)) ((sI Mc 109 0 (nI K)).1 28) 0 0 (na * 16 * 7))).2.2.2.1 (4 * j + 3) = Mc.2.2.2.1 (4 * j + 3) := rfl
    refine ⟨_, _, _, rfl, rfl, ns, nn, na, nr, K, RelN_o (nk' := K) h (fun c a1 a2 a3 a4 a5 a6 a7 a8 a9 a10 a11 a12 a13 _ _ _ _ _ _ _ _ _ => ?_) (fun _ _ _ _ => rfl) rfl (fun c q a1 a2 a3 a4 a5 => ?_) rfl rfl ?_ ?_ ?_ ⟨?_, ?_, ?_, by omega, o, r5, ?_, fun t ht => ?_, K2, K3⟩⟩
    · rw [sI_n a13, sI_n a11, sI_n a7, zI_n a2, zI_n a1, sI_n a6]
    · rw [yI_n a2, yI_n a1, sI_n a5]
    · rw [sI_n (by decide), sI_n (by decide), sI_e, pk_us]
    · rw [sI_n (by decide), sI_e, pk_us]
    · rw [sI_e, pk_us]
    · refine OW_congr j2 han (fun a ha => ?_) (fun z hz => ?_) (fun m hm => ?_) (fun z hz => ?_)
      · rw [sI_n (by decide), sI_n (by decide), sI_n (by decide), zI_e, pk_cpy_in (by omega) (by omega), e29]; exact ix (by omega)
      · rw [sI_n (by decide), sI_n (by decide), sI_n (by decide), zI_n (by decide), zI_e, pk_cpy_in (by omega) (by omega)]
        show Mc.2.2.2.1 (4 * j + 2) _ = _
        exact ix (by omega)
      · rw [yI_n (by decide), yI_e, pk_cpy_in (by omega) (by omega), sI_n (by decide)]; exact ix (by omega)
      · rw [yI_e, pk_cpy_in (by omega) (by omega), yI_n (by decide), sI_n (by decide)]; exact ix (by omega)
    · rw [sI_n (by decide), sI_n (by decide), sI_n (by decide), zI_n (by decide), zI_n (by decide), c109]
    · rw [yI_n (by decide), yI_n (by decide), e109]
    · rw [sI_n (by decide), sI_n (by decide), sI_n (by decide), zI_n (by decide), zI_n (by decide), c108]
    · rw [yI_n (by decide), yI_n (by decide), sI_n (by decide), yI_n (by decide), yI_n (by decide), sI_n (by decide)]
      exact K1 t (by omega)
