/-! the pure half: shift, part -/
theorem o64 (x : Int32) : x.toInt64 = Int64.ofInt x.toInt := by
  rw [← Int32.toInt_toInt64, Int64.ofInt_toInt]
theorem e64 {z : Int} (h1 : -2147483648 ≤ z) (h2 : z ≤ 2147483647) : (Int32.ofInt z).toInt64 = Int64.ofInt z := by
  rw [o64, ofI_b h1 h2]
/-- sums that stay small are the same in both widths -/
theorem lin64 {a x y : Int32} (ha : -100 ≤ a.toInt ∧ a.toInt ≤ 100) (hx : -100000 ≤ x.toInt ∧ x.toInt ≤ 100000) (hy : -100000 ≤ y.toInt ∧ y.toInt ≤ 100000) : a.toInt64 * x.toInt64 + y.toInt64 = (a * x + y).toInt64 ∧ (a * x + y).toInt = a.toInt * x.toInt + y.toInt := by
  have e : a * x + y = Int32.ofInt (a.toInt * x.toInt + y.toInt) := by rw [Int32.ofInt_add, Int32.ofInt_mul, Int32.ofInt_toInt, Int32.ofInt_toInt, Int32.ofInt_toInt]
  have b1 : -10000000 ≤ a.toInt * x.toInt ∧ a.toInt * x.toInt ≤ 10000000 := by
    have h1 : (a.toInt * x.toInt).natAbs ≤ 100 * 100000 := by
      rw [Int.natAbs_mul]
      exact Nat.mul_le_mul (by omega) (by omega)
    omega
  rw [e, e64 (by omega) (by omega), ofI_b (by omega) (by omega), o64 a, o64 x, o64 y, Int64.ofInt_add, Int64.ofInt_mul]
  exact ⟨rfl, rfl⟩
section
variable {ns nn na nr nk : Nat} {Mc Mm : Mem}
/-- the reference takes its rows back -/
theorem give_rel (h : RelN ns nn na nr nk Mc Mm) {Mt N : Mem} (t5 : ∀ c, c ≠ 34 → c ≠ 35 → Mt.1 c = Mm.1 c) (t6 : Mt.2 = Mm.2) (t34 : ∀ k, k < 40 → Mt.1 34 k = Mm.1 30 k) (t35 : ∀ k, k < 4480 → Mt.1 35 k = Mm.1 31 k) (hN : MB Mt N) : ∃ N', f_X12_giveTried N = some N' ∧ RelN ns nn na nr nk Mc N' := by
  refine ⟨_, gt_eq N, ?_⟩
  have e30 : (yI (yI N 34 0 30 0 40) 35 0 31 0 4480).1 30 = Mm.1 30 := by
    rw [yI_n (by decide), yI_e]
    funext j
    by_cases q : j < 40
    · rw [pk_cpy_in (by omega) (by omega), hN.1 34 (by decide) (by decide), ← t34 j q]; exact ix (by omega)
    · rw [pk_cpy_out (by omega), hN.2.2.2 j (by omega), t5 30 (by decide) (by decide)]
  have e31 : (yI (yI N 34 0 30 0 40) 35 0 31 0 4480).1 31 = Mm.1 31 := by
    rw [yI_e]
    funext j
    by_cases q : j < 4480
    · rw [pk_cpy_in (by omega) (by omega), yI_n (by decide), hN.1 35 (by decide) (by decide), ← t35 j q]; exact ix (by omega)
    · rw [pk_cpy_out (by omega), yI_n (by decide), hN.2.2.1 j (by omega), t5 31 (by decide) (by decide)]
  have hm : MFr Mm (yI (yI N 34 0 30 0 40) 35 0 31 0 4480) := by
    refine ⟨fun c q => ?_, ?_, ?_⟩
    · by_cases c30 : c = 30
      · rw [c30]; exact e30
      · by_cases c31 : c = 31
        · rw [c31]; exact e31
        · rw [yI_n c31, yI_n c30, hN.1 c c30 c31, t5 c (by unfold mRl at q; omega) (by unfold mRl at q; omega)]
    · show N.2.1 22 = _
      rw [hN.2.1 22 (by decide), t6]
    · show N.2.1 105 = _
      rw [hN.2.1 105 (by decide), t6]
  exact RelN_fr h (CFr_r Mc) hm (R8_m h.2.2.2.2.2.2.2 hm)
end
theorem sim_shift : Sim_shift Rel := by
  intro Mc Mm y0 y1 y2 ⟨ns, nn, na, nr, nk, h⟩
  have h2 := h.2.1
  have hn : nn ≤ 40 := h2.2.2.1
  have hna : na ≤ 12 := h2.2.2.2.2.2.1
  obtain ⟨k1, k2, k3, k4, k5⟩ := h2.2.2.2.2.2.2.1
  unfold f_X11_shift f_X12_shift
  rw [kn_eq h2.1 (by omega), no_eq h2.2.1 (by omega), in_w 0 3, wi_n y1 (b := 3) (m := 3) (n := 4) rfl rfl (by decide), in_w (-400) 400]
  cases e : inN y0 nn with
  | false => exact same_go h _
  | true =>
    obtain ⟨j, hj, rfl⟩ := inN_t e
    cases e1 : inN y1 4 with
    | false => exact same_go h _
    | true =>
      obtain ⟨d, hd, rfl⟩ := inN_t e1
      rw [bq_s, bq_s, bT, bT, bq_s, bq_s, bT, bT]
      rcases wi_c y2 (-400) 400 with g | g
      · rw [g]
        unfold f_X2_isAct
        simp only [bq_s, bT, ck40 (show j < 40 by omega)]
        rw [nI_clamp (by omega), k1]
        by_cases q3 : Mm.1 6 j = 3
        · simp only [if_pos q3, bq_s, bT]
          obtain ⟨a, ha, o1, o2⟩ := h2.2.2.2.2.2.2.2.2.2.2.2.2.1 j hj (by rw [k1]; exact q3)
          have ek : cN_ (Mc.1 16 a) = j := by rw [o2]; exact cN_n' (by omega)
          obtain ⟨qq, p1, p2, p3, p4⟩ := h.2.2.2.2.2.2.1.1 a ha
          rw [ek] at p2 p3 p4
          have hqq : qq ≤ 16 := p4.2.1
          obtain ⟨l, hl4, el⟩ : ∃ l, l ≤ 4 ∧ Mc.1 11 j = nI l := ⟨_, (h2.2.2.2.2.2.2.2.1 j hj).2.2.1.2.1, (h2.2.2.2.2.2.2.2.1 j hj).2.2.1.1⟩
          have el' : cN_ (Mc.1 11 j) = l := by rw [el]; exact cN_n' (by omega)
          rw [el'] at p4
          have lr := lr_eq (M := Mc) (N := Mm) (d := d) (by omega) (by omega) hl4 p1 p2 p3 p4
          rw [o1, ← k3, el]
          by_cases hdl : d < l
          · obtain ⟨i, i1, i2, i3, i4, i5⟩ := lr.1 hdl
            unfold f_X12_rowAt
            rw [i3, i4, bq_s, if_pos (nI_lt hdl (by omega)), bq_s, bq_s, if_pos (nI_pos' (by omega)), i_n16, i_n7, pk_mul, nI_add, pk_mul, ck_nI (by omega) (by omega), ck_nI (by omega) (by omega), nI_clamp (by omega), nI_clamp (by omega)]
            have e0 : Mc.1 28 ((a * 16 + i) * 7) = Mm.1 31 (7 * (16 * j + i)) := p3 i i2 0 (by omega)
            unfold f_X11_rowNumberFits
            rw [e0, in_w (-100000) 100000]
            rcases wi_c (Mm.1 31 (7 * (16 * j + i)) + y2) (-100000) 100000 with w | w
            · have w2 := w
              rw [wi_d] at w2
              have w3 := of_decide_eq_true (Option.some.inj w2)
              rw [w]
              obtain ⟨Mk, Mt, t1, t2, t3, t4, t5, t6, _, _, t7⟩ := turn_done h
              simp only [bq_s, bT]
              rw [t1, t2, bm_s, bm_s, ck_nI (by omega) (by omega), ck_nI (by omega) (by omega), ck_nI (by omega) (by omega), t5 31 (by decide) (by decide)]
              obtain ⟨Mc3, Mm3, v1, v2, v3⟩ := t7 (sI Mk 28 ((a * 16 + i) * 7) (Mm.1 31 (7 * (16 * j + i)) + y2)) (sI Mt 31 (7 * (16 * j + i)) (Mm.1 31 (7 * (16 * j + i)) + y2)) (fun c a b => by rw [sI_n a]) rfl (fun c a b => by rw [sI_n b]) (fun c _ => rfl) (by
                rw [sI_n (by decide), sI_e, sI_n (by decide), sI_e, t3 29 (by decide) (by decide), t3 28 (by decide) (by decide), t5 30 (by decide) (by decide), t5 31 (by decide) (by decide)]
                refine OW_upd (a := a) (k := j) h.2.2.2.2.2.2.1.1 (inj_a (C0 := Mc) (N0 := Mm) h2 ha hj o2 o1) ek (fun a' _ => rfl) (fun z hz => pk_un (by omega)) (fun m _ => rfl) (fun z hz => pk_un (by omega)) ⟨qq, p1, p2, fun i' hi' c hc => ?_, ?_⟩
                · by_cases z : i' = i ∧ c = 0
                  · rw [z.1, z.2, Nat.add_zero, Nat.add_zero, pk_us, pk_us]
                  · rw [pk_un (by omega), pk_un (by omega)]; exact p3 i' hi' c hc
                · rw [el']
                  refine RW_num p4 (fun i' hi' => ?_) (fun i' hi' => ?_) (fun i' hi' c hc => ?_)
                  · rw [pk_un (by omega)]; exact p4.2.2.2.2.1 i' hi'
                  · rw [pk_un (by omega)]
                  · by_cases z : i' = i ∧ c = 0
                    · rw [z.1, z.2, Nat.add_zero, pk_us]
                      have w4 := w3.1
                      have w5 := w3.2
                      rw [Int32.le_iff_toInt_le] at w4 w5
                      have c1 : (-100000 : Int32).toInt = -100000 := by decide
                      have c2 : (100000 : Int32).toInt = 100000 := by decide
                      omega
                    · rw [pk_un (by omega)]; exact p4.2.2.2.2.2.1 i' hi' c hc)
              rw [v1, v2]
              exact ⟨_, _, _, rfl, rfl, v3⟩
            · rw [w]; exact same_go h _
          · obtain ⟨i3, i4⟩ := lr.2 (by omega) (by omega)
            rw [i3, bq_s, if_neg (show ¬ (0 : Int32) ≤ -9 by decide), if_neg (show ¬ nI d < nI l from nI_nlt (by omega) (by omega))]
            exact same_go h _
        · simp only [if_neg q3, bq_s, bF]; exact meet_go h 3 (by decide) rfl
      · rw [g]; exact same_go h _
