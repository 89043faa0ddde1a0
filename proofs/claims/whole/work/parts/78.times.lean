/-! the pure half: times -/
theorem lrem_eq {x y : Int64} (h : y ≠ -1) : x - x / y * y = x % y := by
  have e1 : x / y = Int64.ofInt (x.toInt.tdiv y.toInt) := by rw [← Int64.toInt_div_of_ne_right _ _ h, Int64.ofInt_toInt]
  have e2 : x % y = Int64.ofInt (x.toInt.tmod y.toInt) := by rw [← Int64.toInt_mod, Int64.ofInt_toInt]
  rw [e2, Int.tmod_def, Int64.ofInt_sub, Int64.ofInt_mul, Int64.ofInt_toInt, Int64.ofInt_toInt, ← e1, Int64.mul_comm]
theorem sgn (z : Int64) : 0 ≤ z ↔ z.toBitVec.msb = false := by
  have e : z.toBitVec.msb = decide (z.toBitVec.toInt < 0) := BitVec.msb_eq_toInt
  have c0 : (0 : Int64).toInt = 0 := by decide
  rw [Int64.le_iff_toInt_le, c0, e, decide_eq_false_iff_not]
  show 0 ≤ z.toInt ↔ ¬ z.toInt < 0
  omega
theorem fd_eq {x : Int64} {w : Nat} (h0 : 0 < w) (hw : w < 1000) : f_J9_floorDiv_f86c9 x (lN w) = some (cutD x (lN w)) := by
  have hy : (lN w).toInt = (w : Int) := pk_lT (by omega)
  have c0 : (0 : Int64).toInt = 0 := by decide
  have y1 : lN w ≠ -1 := by
    intro z
    have := congrArg Int64.toInt z
    have e1 : (-1 : Int64).toInt = -1 := by decide
    omega
  have y0 : lN w ≠ 0 := by
    intro z
    have := congrArg Int64.toInt z
    omega
  have ys : (lN w).toBitVec.msb = false := (sgn _).mp (by rw [Int64.le_iff_toInt_le, hy, c0]; omega)
  have xs : (x ^^^ lN w).toBitVec.msb = x.toBitVec.msb := by
    show (x.toBitVec ^^^ (lN w).toBitVec).msb = _
    rw [BitVec.msb_xor, ys, Bool.xor_false]
  unfold f_J9_floorDiv_f86c9 cutD
  rw [nzL_ok y0]
  by_cases q : 0 ≤ x
  · have m := (sgn x).mp q
    have q2 : 0 ≤ (x ^^^ lN w) := (sgn _).mpr (by rw [xs]; exact m)
    have nn : ¬ x - x / lN w * lN w < 0 := by
      rw [lrem_eq y1, Int64.lt_iff_toInt_lt, Int64.toInt_mod, hy, c0]
      rw [Int64.le_iff_toInt_le, c0] at q
      have := Int.tmod_nonneg (w : Int) q
      omega
    rw [if_pos q2, if_neg nn]
  · have q2 : ¬ 0 ≤ (x ^^^ lN w) := fun z => q ((sgn x).mpr (by rw [← xs]; exact (sgn _).mp z))
    rw [if_neg q2]
    by_cases z : x / lN w * lN w = x
    · rw [if_pos z, z, if_neg (by rw [Int64.sub_self]; decide)]
    · rw [if_neg z, if_pos]
      rw [lrem_eq y1, Int64.lt_iff_toInt_lt, Int64.toInt_mod, hy, c0]
      rw [Int64.le_iff_toInt_le, c0] at q
      have n0 : x.toInt.tmod (w : Int) ≠ 0 := by
        intro y
        apply z
        have e : x - x / lN w * lN w = 0 := by
          rw [lrem_eq y1]
          have : (x % lN w).toInt = (0 : Int64).toInt := by rw [Int64.toInt_mod, hy, y, c0]
          exact Int64.toInt_inj.mp this
        have e2 := congrArg (fun u => u + x / lN w * lN w) e
        simp only [Int64.sub_add_cancel, Int64.zero_add] at e2
        exact e2.symm
      have np : x.toInt.tmod (w : Int) ≤ 0 := by
        have h1 := Int.tmod_nonneg (w : Int) (show (0 : Int) ≤ -x.toInt by omega)
        rw [Int.neg_tmod] at h1
        omega
      omega
theorem cd_eq {x : Int64} {w : Nat} (h0 : 0 < w) (hw : w < 1000) : f_X12_cutDown x (nI w) = some (cutD x (nI w).toInt64) := by
  unfold f_X12_cutDown cutD
  have p : 0 < nI w := nI_lt (a := 0) h0 (by omega)
  rw [nzL_ok (pos64 p), nzL_ok (pos64 p)]
  by_cases q : 0 ≤ x - x / (nI w).toInt64 * (nI w).toInt64
  · rw [if_pos q, if_neg (Int64.not_lt.mpr q)]
  · rw [if_neg q, if_pos (Int64.not_le.mp q)]
theorem cut1 (x : Int64) : cutD x (nI 1).toInt64 = x := by
  have e : (nI 1).toInt64 = 1 := by decide
  unfold cutD
  rw [e, Int64.div_one, Int64.mul_one, Int64.sub_self, if_neg (by decide)]
section
variable {M : Mem} {cm : Nat → Int32} {σ : Ws}
theorem rt54s {k21 : Int32 → Int32 → Int32 → Mem → Option Mem} {v a i t d : Nat} {x : Int64} (hv : v < 400) (ht : t + 7 ≤ 1344) (hd : d < 4) (f : Nat) : f_X10_reckonTimes_54 k21 (f + 1) (nI v) (nI a) (nI i) (nI t) x (nI d) M = f_X10_reckonTimes_54 k21 f (nI v) (nI a) (nI i) (nI t) (x + (M.1 28 (t + 1 + d)).toInt64 * M.2.1 36 (v * 4 + d)) (nI (d + 1)) M := by
  rw [f_X10_reckonTimes_54, i_n4, if_neg (nI_ge (by omega) (by omega)), nI_1, nI_add, ck_nI (by omega) (by omega)]
  unfold f_X0_letter
  rw [i_n4, pk_mul, nI_add, ck_nI (by omega) (by omega), bq_s, nI_clamp (by omega), nI_clamp (by omega), nI_1]
theorem rt_c {k21 : Int32 → Int32 → Int32 → Mem → Option Mem} {v a k i w : Nat} (hv : v < 400) (ha : a < 12) (hi : i < 16) (hk : wA σ v = k) (h28 : ∀ c, c < 7 → M.1 28 ((a * 16 + i) * 7 + c) = cm (7 * (16 * k + i) + c)) (hl : ∀ d, d < 4 → M.2.1 36 (v * 4 + d) = wL σ (v * 4 + d)) (hw1 : 1 ≤ w) (hw2 : w ≤ 400) (hw : cm (7 * (16 * k + i) + 5) = nI w) :
    f_X10_reckonTimes_54 k21 100000 (nI v) (nI a) (nI i) (nI ((a * 16 + i) * 7)) (M.1 28 ((a * 16 + i) * 7)).toInt64 (nI 0) M = k21 (nI v) (nI a) (nI (i + 1)) (sL M 56 (v * 16 + i) (timO cm σ v i)) := by
  have e0 : M.1 28 ((a * 16 + i) * 7) = cm (7 * (16 * k + i)) := h28 0 (by omega)
  have l0 : M.2.1 36 (v * 4 + 0) = wL σ (v * 4) := hl 0 (by omega)
  rw [show (100000 : Nat) = 99995 + 1 + 1 + 1 + 1 + 1 from rfl, rt54s hv (by omega) (by omega), rt54s hv (by omega) (by omega), rt54s hv (by omega) (by omega), rt54s hv (by omega) (by omega), f_X10_reckonTimes_54, if_pos (by decide), i_n5, nI_add, ck_nI (by omega) (by omega), nI_clamp (by omega), h28 5 (by omega), hw, i_n16, pk_mul, nI_add, ck_nI (by omega) (by omega), nI_clamp (by omega), nI_1]
  have et : (((((M.1 28 ((a * 16 + i) * 7)).toInt64 + (M.1 28 ((a * 16 + i) * 7 + 1 + 0)).toInt64 * M.2.1 36 (v * 4 + 0)) + (M.1 28 ((a * 16 + i) * 7 + 1 + (0 + 1))).toInt64 * M.2.1 36 (v * 4 + (0 + 1))) + (M.1 28 ((a * 16 + i) * 7 + 1 + (0 + 1 + 1))).toInt64 * M.2.1 36 (v * 4 + (0 + 1 + 1))) + (M.1 28 ((a * 16 + i) * 7 + 1 + (0 + 1 + 1 + 1))).toInt64 * M.2.1 36 (v * 4 + (0 + 1 + 1 + 1))) =
      (((((cm (7 * (16 * k + i))).toInt64 + (cm (7 * (16 * k + i) + 1)).toInt64 * wL σ (v * 4)) + (cm (7 * (16 * k + i) + 2)).toInt64 * wL σ (v * 4 + 1)) + (cm (7 * (16 * k + i) + 3)).toInt64 * wL σ (v * 4 + 2)) + (cm (7 * (16 * k + i) + 4)).toInt64 * wL σ (v * 4 + 3)) := by
    rw [e0, l0, show (a * 16 + i) * 7 + 1 + 0 = (a * 16 + i) * 7 + 1 by omega, show (a * 16 + i) * 7 + 1 + (0 + 1) = (a * 16 + i) * 7 + 2 by omega, show (a * 16 + i) * 7 + 1 + (0 + 1 + 1) = (a * 16 + i) * 7 + 3 by omega, show (a * 16 + i) * 7 + 1 + (0 + 1 + 1 + 1) = (a * 16 + i) * 7 + 4 by omega, h28 1 (by omega), h28 2 (by omega), h28 3 (by omega), h28 4 (by omega), show 0 + 1 = 1 from rfl, show 1 + 1 = 2 from rfl, show 2 + 1 = 3 from rfl, hl 1 (by omega), hl 2 (by omega), hl 3 (by omega)]
  rw [et]
  have eT : timO cm σ v i = cutD ((((((cm (7 * (16 * k + i))).toInt64 + (cm (7 * (16 * k + i) + 1)).toInt64 * wL σ (v * 4)) + (cm (7 * (16 * k + i) + 2)).toInt64 * wL σ (v * 4 + 1)) + (cm (7 * (16 * k + i) + 3)).toInt64 * wL σ (v * 4 + 2)) + (cm (7 * (16 * k + i) + 4)).toInt64 * wL σ (v * 4 + 3))) (nI w).toInt64 := by
    unfold timO
    rw [hk, hw]
  rw [eT]
  by_cases q : w = 1
  · subst q
    rw [if_pos (show nI 1 ≤ 1 by decide), cut1]
  · rw [if_neg (show ¬ nI w ≤ 1 from nI_ge (a := 1) (by omega) (by omega)), nI_l (by omega), fd_eq (by omega) (by omega), bq_s, ck_nI (by omega) (by omega)]
theorem lo49s {k19 : Int32 → Int32 → Int32 → Mem → Option Mem} {v k i t d : Nat} {x : Int64} (hv : v < 400) (ht : t + 7 ≤ 4480) (hd : d < 4) (f : Nat) : f_X12_layOrder_49 k19 (f + 1) (nI v) (nI k) (nI i) (nI t) x (nI d) M = f_X12_layOrder_49 k19 f (nI v) (nI k) (nI i) (nI t) (x + (M.1 31 (t + 1 + d)).toInt64 * M.2.1 24 (v * 4 + d)) (nI (d + 1)) M := by
  rw [f_X12_layOrder_49, i_n4, if_neg (nI_ge (by omega) (by omega)), nI_1, nI_add, ck_nI (by omega) (by omega), pk_mul, nI_add, ck_nI (by omega) (by omega), nI_clamp (by omega), nI_clamp (by omega), nI_1, Nat.mul_comm 4 v]
theorem rt_m {k19 : Int32 → Int32 → Int32 → Mem → Option Mem} {v k i w : Nat} (hv : v < 400) (hk40 : k < 40) (hi : i < 16) (hk : wA σ v = k) (h31 : M.1 31 = cm) (hl : ∀ d, d < 4 → M.2.1 24 (v * 4 + d) = wL σ (v * 4 + d)) (hw1 : 1 ≤ w) (hw2 : w ≤ 400) (hw : cm (7 * (16 * k + i) + 5) = nI w) :
    f_X12_layOrder_49 k19 100000 (nI v) (nI k) (nI i) (nI (7 * (16 * k + i))) (M.1 31 (7 * (16 * k + i))).toInt64 (nI 0) M = k19 (nI v) (nI k) (nI (i + 1)) (sL M 37 (16 * v + i) (timO cm σ v i)) := by
  have l0 : M.2.1 24 (v * 4 + 0) = wL σ (v * 4) := hl 0 (by omega)
  rw [show (100000 : Nat) = 99995 + 1 + 1 + 1 + 1 + 1 from rfl, lo49s hv (by omega) (by omega), lo49s hv (by omega) (by omega), lo49s hv (by omega) (by omega), lo49s hv (by omega) (by omega), f_X12_layOrder_49, if_pos (by decide), i_n5, nI_add, ck_nI (by omega) (by omega), nI_clamp (by omega), h31, hw, cd_eq (by omega) (by omega), bq_s, i_n16, pk_mul, nI_add, ck_nI (by omega) (by omega), nI_clamp (by omega), nI_1]
  have eT : timO cm σ v i = cutD ((((((cm (7 * (16 * k + i))).toInt64 + (cm (7 * (16 * k + i) + 1)).toInt64 * wL σ (v * 4)) + (cm (7 * (16 * k + i) + 2)).toInt64 * wL σ (v * 4 + 1)) + (cm (7 * (16 * k + i) + 3)).toInt64 * wL σ (v * 4 + 2)) + (cm (7 * (16 * k + i) + 4)).toInt64 * wL σ (v * 4 + 3))) (nI w).toInt64 := by
    unfold timO
    rw [hk, hw]
  rw [eT, l0, show 7 * (16 * k + i) + 1 + 0 = 7 * (16 * k + i) + 1 by omega, show 7 * (16 * k + i) + 1 + (0 + 1) = 7 * (16 * k + i) + 2 by omega, show 7 * (16 * k + i) + 1 + (0 + 1 + 1) = 7 * (16 * k + i) + 3 by omega, show 7 * (16 * k + i) + 1 + (0 + 1 + 1 + 1) = 7 * (16 * k + i) + 4 by omega, show 0 + 1 = 1 from rfl, show 1 + 1 = 2 from rfl, show 2 + 1 = 3 from rfl, hl 1 (by omega), hl 2 (by omega), hl 3 (by omega)]
end
/-! the order of keys -/
theorem lexB_irr : ∀ s, lexB s s = false := by
  intro s
  induction s with
  | nil => rfl
  | cons a s ih => unfold lexB; rw [if_pos rfl]; exact ih
theorem lexB_tot : ∀ s t, lexB s t = false → lexB t s = false → s = t := by
  intro s
  induction s with
  | nil =>
    intro t h1 h2
    cases t with
    | nil => rfl
    | cons b t => simp [lexB] at h1
  | cons a s ih =>
    intro t h1 h2
    cases t with
    | nil => simp [lexB] at h2
    | cons b t =>
      unfold lexB at h1 h2
      by_cases q : a = b
      · subst q
        rw [if_pos rfl] at h1 h2
        rw [ih t h1 h2]
      · rw [if_neg q] at h1
        rw [if_neg (fun z => q z.symm)] at h2
        have g1 := of_decide_eq_false h1
        have g2 := of_decide_eq_false h2
        rw [Int64.lt_iff_toInt_lt] at g1 g2
        exact absurd (Int64.toInt_inj.mp (by omega)) q
theorem lexB_tr : ∀ s t u, lexB s t = true → lexB t u = true → lexB s u = true := by
  intro s
  induction s with
  | nil =>
    intro t u h1 h2
    cases u with
    | nil => cases t <;> simp [lexB] at h2
    | cons c u => rfl
  | cons a s ih =>
    intro t u h1 h2
    cases t with
    | nil => simp [lexB] at h1
    | cons b t =>
      cases u with
      | nil => simp [lexB] at h2
      | cons c u =>
        unfold lexB at h1 h2 ⊢
        by_cases q : a = b
        · subst q
          rw [if_pos rfl] at h1
          by_cases r : a = c
          · rw [if_pos r] at h2 ⊢; exact ih t u h1 h2
          · rw [if_neg r] at h2 ⊢; exact h2
        · rw [if_neg q] at h1
          have g1 := of_decide_eq_true h1
          by_cases r : b = c
          · subst r
            rw [if_neg q]; exact h1
          · rw [if_neg r] at h2
            have g2 := of_decide_eq_true h2
            rw [Int64.lt_iff_toInt_lt] at g1 g2
            have ne : a ≠ c := fun z => by rw [z] at g1; omega
            rw [if_neg ne]
            exact decide_eq_true (by rw [Int64.lt_iff_toInt_lt]; omega)
theorem lexB_as {s t : List Int64} (h : lexB s t = true) : lexB t s = false := by
  cases e : lexB t s with
  | false => rfl
  | true =>
    have := lexB_tr s t s h e
    rw [lexB_irr] at this
    exact absurd this (by decide)
section
variable {rm cm : Nat → Int32} {σ : Ws}
theorem ahd_irr (v : Nat) : ¬ ahd rm cm σ v v := by
  intro h
  rcases h with h | h
  · rw [lexB_irr] at h; exact absurd h (by decide)
  · omega
theorem ahd_tr {u v w : Nat} (h : ahd rm cm σ u v) (g : ahd rm cm σ v w) : ahd rm cm σ u w := by
  rcases h with h | ⟨h1, h2⟩
  · rcases g with g | ⟨g1, g2⟩
    · exact .inl (lexB_tr _ _ _ h g)
    · exact .inl (by rw [← g1]; exact h)
  · rcases g with g | ⟨g1, g2⟩
    · exact .inl (by rw [h1]; exact g)
    · exact .inr ⟨h1.trans g1, by omega⟩
theorem ahd_tot {u v : Nat} (h : u ≠ v) : ahd rm cm σ u v ∨ ahd rm cm σ v u := by
  cases e : lexB (keyO rm cm σ u) (keyO rm cm σ v) with
  | true => exact .inl (.inl e)
  | false =>
    cases e2 : lexB (keyO rm cm σ v) (keyO rm cm σ u) with
    | true => exact .inr (.inl e2)
    | false =>
      have k := lexB_tot _ _ e e2
      rcases Nat.lt_or_ge u v with z | z
      · exact .inl (.inr ⟨k, z⟩)
      · exact .inr (.inr ⟨k.symm, by omega⟩)
theorem ahd_as {u v : Nat} (h : ahd rm cm σ u v) : ¬ ahd rm cm σ v u := fun g => ahd_irr u (ahd_tr h g)
end
