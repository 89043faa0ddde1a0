/-! the pure half: loop, test, act, as calls -/
section
variable {ns nn na nr nk : Nat} {Mc Mm : Mem}
theorem op_eq (h : RelN ns nn na nr nk Mc Mm) (p : Int32) : (∃ hp l, PaO nn (Mc.1 9) p hp ∧ lvO (Mc.1 9) (Mc.1 11) p hp l ∧ l ≤ 4 ∧ f_X2_opens Mc p = some true ∧ f_X12_mayHold Mm p = some true ∧ f_X2_loopsIn Mc p = some (nI l) ∧ f_X12_depthIn Mm p = some (nI l)) ∨ (f_X2_opens Mc p = some false ∧ f_X12_mayHold Mm p = some false) := by
  have h2 := h.2.1
  have hn : nn ≤ 40 := h2.2.2.1
  obtain ⟨k1, k2, k3, k4, k5⟩ := h2.2.2.2.2.2.2.1
  have hT := h2.2.2.2.2.2.2.2.1
  unfold f_X2_opens f_X12_mayHold
  by_cases q9 : p = -9
  · have hP : PaO nn (Mc.1 9) p 40 := .inl ⟨q9, rfl⟩
    have hl : lvO (Mc.1 9) (Mc.1 11) p 40 0 := .inl ⟨q9, rfl⟩
    refine .inl ⟨40, 0, hP, hl, by omega, by rw [if_pos q9], by rw [if_pos q9], ?_, ?_⟩
    · unfold f_X2_loopsIn; rw [if_pos q9]; rfl
    · unfold f_X12_depthIn; rw [if_pos q9]; rfl
  · rw [if_neg q9, if_neg q9, kn_eq h2.1 (by omega), no_eq h2.2.1 (by omega)]
    cases e : inN p nn with
    | false => exact .inr ⟨rfl, rfl⟩
    | true =>
      obtain ⟨j, hj, rfl⟩ := inN_t e
      unfold f_X2_isAct
      simp only [bq_s, bT, if_true, ck40 (show j < 40 by omega)]
      rw [nI_clamp (by omega), k1]
      by_cases q3 : Mm.1 6 j = 3
      · simp only [if_pos q3, bq_s, bT]; exact .inr ⟨rfl, trivial⟩
      · simp only [if_neg q3, bq_s, bF]
        have hP : PaO nn (Mc.1 9) (nI j) j := .inr ⟨rfl, hj, by rw [k1]; exact q3⟩
        have l3 := (hT j hj).2.2.1
        obtain ⟨l, hl, hl4⟩ : ∃ l, lvO (Mc.1 9) (Mc.1 11) (nI j) j l ∧ l ≤ 4 := by
          by_cases z : Lq (Mc.1 9) j
          · exact ⟨_, .inr (.inl ⟨q9, z, rfl⟩), by have := l3.2.2 z; omega⟩
          · exact ⟨_, .inr (.inr ⟨q9, z, rfl⟩), l3.2.1⟩
        have lI := lIn_eq (M := Mc) (N := Mm) (n := nn) (hp := j) (l := l) (p := nI j) (kd := Mc.1 9) (lp := Mc.1 11) hn hP (fun _ => ⟨l3.1, l3.2.1⟩) hl rfl rfl (by rw [k1]) (by rw [k3])
        refine .inl ⟨j, l, ?_, ?_, hl4, ?_, ?_, lI.1, lI.2⟩
        · rw [← k1] ; exact hP
        · rw [← k1]; exact hl
        · trivial
        · trivial
end
theorem sim_act : Sim_act Rel := by
  intro Mc Mm y0 y1 y2 ⟨ns, nn, na, nr, nk, h⟩
  have h2 := h.2.1
  have hn : nn ≤ 40 := h2.2.2.1
  have hna : na ≤ 12 := h2.2.2.2.2.2.1
  unfold f_X11_act f_X12_act
  rw [in_w 0 5, h2.2.2.2.1, h2.2.1, h2.2.2.2.2.1]
  rcases op_eq h y0 with ⟨hp, l, hP, hl, hl4, o1, o2, o3, o4⟩ | ⟨o1, o2⟩
  · rw [o1, o2]
    simp only [bq_s, bT, if_true]
    rcases wi_c y1 0 5 with w | w
    · rw [w]
      simp only [bq_s, bT, if_true]
      by_cases q12 : na = 12
      · subst q12
        rw [if_neg (show ¬ nI 12 < 12 by decide)]
        by_cases q40 : nn = 40
        · subst q40; rw [if_pos (show nI 40 = 40 from rfl)]; exact same_go h _
        · rw [if_neg (show ¬ nI nn = 40 from fun z => q40 (nI_inj (by omega) (by decide) z)), if_pos (show nI 12 = 12 from rfl)]; exact same_go h _
      · rw [if_pos (show nI na < 12 from nI_lt (b := 12) (by omega) (by decide))]
        by_cases q40 : nn = 40
        · subst q40
          unfold f_X11_grow
          rw [h2.1, if_neg (show ¬ nI 40 < 40 by decide), if_pos (show nI 40 = 40 from rfl)]; exact same_go h _
        · rw [if_neg (show ¬ nI nn = 40 from fun z => q40 (nI_inj (by omega) (by decide) z)), if_neg (show ¬ nI na = 12 from fun z => q12 (nI_inj (by omega) (by decide) z)), nI_1]
          obtain ⟨Mc', Mm', g1, g2, g3⟩ := grow_rel (x := 3) (p := y0) (one := y1) (two := y2) (Mn := sI Mm 103 0 (nI (na + 1))) h (by omega) hl4 hP hl (.inr (.inr (.inr rfl))) (fun z => by rcases z with z | z <;> exact absurd z (by decide)) (fun z => absurd rfl z) (fun z => by rcases z with z | z <;> exact absurd z (by decide)) (fun z => absurd z (by decide)) (fun _ => by omega) (.inr ⟨rfl, rfl⟩)
          rw [g1, g2]
          exact ⟨_, _, _, rfl, rfl, g3⟩
    · rw [w]; exact same_go h _
  · rw [o1, o2]; exact same_go h _
theorem sim_test : Sim_test Rel := by
  intro Mc Mm y0 y1 y2 ⟨ns, nn, na, nr, nk, h⟩
  have h1 := h.1
  have h2 := h.2.1
  have hn : nn ≤ 40 := h2.2.2.1
  have hns : ns ≤ 80 := h1.2.2.2.1
  unfold f_X11_test f_X12_test
  rw [in_w 0 1000, wi_n y2 (b := 1000) (m := 1000) (n := 1001) rfl rfl (by decide), h2.2.1, su_eq h1.2.1 (by omega)]
  rcases op_eq h y0 with ⟨hp, l, hP, hl, hl4, o1, o2, o3, o4⟩ | ⟨o1, o2⟩
  · rw [o1, o2, o3, o4]
    simp only [bq_s, bT, if_true]
    rcases fits_c (N := Mm) (l := l) h1.2.2.2.2.2.2 h1.1 hns hl4 y1 with ⟨z, f1⟩ | ⟨s, hs, rfl, b, f1, f2⟩
    · rw [z, f1]
      cases inN y2 1001 with
      | false => exact same_go h _
      | true => exact same_go h _
    · rw [inN_nI hs (by omega), f1, f2]
      simp only [bq_s, bT, if_true]
      cases e : inN y2 1001 with
      | false => exact same_go h _
      | true =>
        obtain ⟨m, hm, rfl⟩ := inN_t e
        cases b with
        | false => exact same_go h _
        | true =>
          simp only [if_true]
          by_cases q40 : nn = 40
          · subst q40
            unfold f_X11_grow
            rw [h2.1, if_neg (show ¬ nI 40 < 40 by decide), if_pos (show nI 40 = 40 from rfl)]; exact same_go h _
          · rw [if_neg (show ¬ nI nn = 40 from fun z => q40 (nI_inj (by omega) (by decide) z))]
            obtain ⟨Mc', Mm', g1, g2, g3⟩ := grow_rel (x := 2) (p := y0) (one := nI s) (two := nI m) (Mn := Mm) h (by omega) hl4 hP hl (.inr (.inr (.inl rfl))) (fun z => by rcases z with z | z <;> exact absurd z (by decide)) (fun _ => ⟨s, hs, rfl⟩) (fun z => by rcases z with z | z <;> exact absurd z (by decide)) (fun _ => ⟨m, by omega, rfl⟩) (fun z => absurd z (by decide)) (.inl ⟨by decide, rfl⟩)
            rw [g1, g2]
            exact ⟨_, _, _, rfl, rfl, g3⟩
  · rw [o1, o2]; exact same_go h _
theorem sim_loop : Sim_loop Rel := by
  intro Mc Mm y0 y1 y2 y3 ⟨ns, nn, na, nr, nk, h⟩
  have h1 := h.1
  have h2 := h.2.1
  have hn : nn ≤ 40 := h2.2.2.1
  have hns : ns ≤ 80 := h1.2.2.2.1
  unfold f_X11_loop f_X12_loop
  rw [h2.2.1, su_eq h1.2.1 (by omega), su_eq h1.2.1 (by omega)]
  rcases op_eq h y0 with ⟨hp, l, hP, hl, hl4, o1, o2, o3, o4⟩ | ⟨o1, o2⟩
  · rw [o1, o2, o3, o4]
    simp only [bq_s, bT, if_true]
    by_cases ql : l = 4
    · subst ql
      rw [if_pos (show (4 : Int32) ≤ nI 4 by decide), if_pos (show (3 : Int32) < nI 4 by decide)]
      cases inN y1 ns with
      | false => exact same_go h _
      | true =>
        cases inN y2 ns with
        | false => exact same_go h _
        | true => exact same_go h _
    · rw [if_neg (show ¬ (4 : Int32) ≤ nI l from nI_ge (b := 4) (by omega) (by omega)), if_neg (show ¬ (3 : Int32) < nI l from nI_nlt (a := 3) (by omega) (by omega))]
      rcases fits_c (N := Mm) (l := l) h1.2.2.2.2.2.2 h1.1 hns hl4 y1 with ⟨z, f1⟩ | ⟨s, hs, rfl, b, f1, f2⟩
      · rw [z, f1]; exact same_go h _
      · rw [inN_nI hs (by omega), f1, f2]
        simp only [bq_s, bT, if_true]
        rcases fits_c (N := Mm) (l := l) h1.2.2.2.2.2.2 h1.1 hns hl4 y2 with ⟨z, f3⟩ | ⟨t, ht, rfl, b2, f3, f4⟩
        · rw [z, f3]
          cases b with
          | false => exact same_go h _
          | true => exact same_go h _
        · rw [inN_nI ht (by omega), f3, f4]
          simp only [bq_s, bT, if_true]
          cases b with
          | false => exact same_go h _
          | true =>
            cases b2 with
            | false => exact same_go h _
            | true =>
              unfold f_X11_loop_69 f_X12_loop_86
              simp only [if_true]
              by_cases q40 : nn = 40
              · subst q40
                unfold f_X11_grow
                rw [h2.1, if_neg (show ¬ nI 40 < 40 by decide), if_pos (show nI 40 = 40 from rfl)]
                cases y3 with
                | false => exact same_go h _
                | true => exact same_go h _
              · rw [if_neg (show ¬ nI nn = 40 from fun z => q40 (nI_inj (by omega) (by decide) z))]
                cases y3 with
                | true =>
                  obtain ⟨Mc', Mm', g1, g2, g3⟩ := grow_rel (x := bI true) (p := y0) (one := nI s) (two := nI t) (Mn := Mm) h (by omega) hl4 hP hl (.inr (.inl rfl)) (fun _ => by omega) (fun _ => ⟨s, hs, rfl⟩) (fun _ => ⟨t, ht, rfl⟩) (fun z => absurd z (by decide)) (fun z => absurd z (by decide)) (.inl ⟨by decide, rfl⟩)
                  rw [bT, bT, g1, g2]
                  exact ⟨_, _, _, rfl, rfl, g3⟩
                | false =>
                  obtain ⟨Mc', Mm', g1, g2, g3⟩ := grow_rel (x := bI false) (p := y0) (one := nI s) (two := nI t) (Mn := Mm) h (by omega) hl4 hP hl (.inl rfl) (fun _ => by omega) (fun _ => ⟨s, hs, rfl⟩) (fun _ => ⟨t, ht, rfl⟩) (fun z => absurd z (by decide)) (fun z => absurd z (by decide)) (.inl ⟨by decide, rfl⟩)
                  rw [bF, bF, g1, g2]
                  exact ⟨_, _, _, rfl, rfl, g3⟩
  · rw [o1, o2]; exact same_go h _
