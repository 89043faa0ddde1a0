/-! the pure half: array, order, ended, sum -/
theorem cP_ok {α : Type} {P : Prop} {k : Option α} (h : P) : cP P k = k := by unfold cP; rw [if_pos h]
theorem array_loop {nr : Nat} (hr : nr < 8) : ∀ (m k fuel : Nat) (M : Mem), M.1 104 0 = nI nr → k + m = 20 → m < fuel → f_X12_array_64 fuel (nI k) M = some (nI nr, sI (fI M 21 (20 * nr + k) (20 * nr + 20) (-9)) 104 0 (nI (nr + 1))) := by
  intro m
  induction m with
  | zero =>
    intro k fuel M hM hk hf
    obtain ⟨f, rfl⟩ : ∃ f, fuel = f + 1 := ⟨fuel - 1, by omega⟩
    have e : k = 20 := by omega
    subst e
    rw [f_X12_array_64, if_pos (by decide), fI_nil, sI_e, hM, pk_us, nI_1, nI_pred]
  | succ m ih =>
    intro k fuel M hM hk hf
    obtain ⟨f, rfl⟩ : ∃ f, fuel = f + 1 := ⟨fuel - 1, by omega⟩
    rw [f_X12_array_64, hM, i_n20, if_neg (nI_ge (by omega) (by omega)), pk_mul, nI_add, ck_nI (by omega) (by omega), nI_clamp (by omega), nI_1, ih (k + 1) f _ (by rw [sI_n (by decide)]; exact hM) (by omega) (by omega), ← Nat.add_assoc, fI_step (by omega)]
theorem R3_mono {ns na nr ns' nr' : Nat} {an c18 c19 c20 m11 m12 m13 : Nat → Int32} (h : R3 ns na nr an c18 c19 c20 m11 m12 m13) (h1 : ns ≤ ns') (h2 : nr ≤ nr') : R3 ns' na nr' an c18 c19 c20 m11 m12 m13 := by
  refine ⟨fun a ha w hw => ?_, h.2⟩
  obtain ⟨b1, b2⟩ := h.1 a ha w hw
  refine ⟨b1, ?_⟩
  rcases b2 with b2 | ⟨⟨r, hr, e1⟩, ⟨s, hs, e2⟩, ⟨t, ht, e3⟩, b3⟩
  · exact .inl b2
  · exact .inr ⟨⟨r, by omega, e1⟩, ⟨s, by omega, e2⟩, ⟨t, by omega, e3⟩, b3⟩
theorem sim_array : Sim_array Rel := by
  intro Mc Mm y0 y1 ⟨ns, nn, na, nr, nk, h⟩
  have h5 := h.2.2.2.2.1
  have hn : nr ≤ 8 := h5.2.2.1
  unfold f_X11_array f_X12_array
  rw [in_w 0 3]
  rcases wi_c y0 0 3 with e | e
  · rw [e, bq_s, bq_s, bT, bT]
    by_cases q20 : y1 ≤ 20
    · rw [if_pos q20, if_pos q20, h5.1, h5.2.1]
      by_cases q8 : nr = 8
      · subst q8
        rw [if_neg (by decide), if_pos (show nI 8 = 8 from rfl)]; exact same_go h _
      · rw [if_pos (show nI nr < 8 from nI_lt (b := 8) (by omega) (by decide)), if_neg (show ¬ nI nr = 8 from fun z => q8 (nI_inj (by omega) (by decide) z))]
        by_cases q0 : 0 ≤ y1
        · rw [if_pos q0, if_pos q0]
          obtain ⟨N, hN, rfl⟩ := nI_of2 (x := y1) (M := 20) (n := 20) (by decide) (Int32.not_lt.mpr q0) q20
          have e104 : (sI Mm 19 nr y0).1 104 0 = nI nr := by rw [sI_n (by decide)]; exact h5.2.1
          have e104' : (sI (sI Mm 19 nr y0) 20 nr (nI N)).1 104 0 = nI nr := by rw [sI_n (by decide)]; exact e104
          have eP : ∀ k, Mc.2.2.1 25 k ≠ some (Mc.2.2.2.2.2 0) := by
            intro k
            rw [h5.2.2.2.1]
            by_cases z : k < nr
            · rw [h5.2.2.2.2.1 k z]
              intro z2
              have := Option.some.inj z2
              omega
            · rw [h5.2.2.2.2.2.1 k (by omega)]
              intro z2; cases z2
          have e100 : (sQ (nRk Mc y0 N) 25 nr (some (Mc.2.2.2.2.2 0))).1 100 0 = nI nr := h5.1
          rw [ck_nI (by omega) (by omega), cP_ok eP, ck_nI (by omega) (by omega), nI_clamp (by omega), nI_clamp (by omega), ck_nI (by omega) (by omega), e104, ck_nI (by omega) (by omega), nI_clamp (by omega), i_n0, array_loop (by omega) 20 0 100000 _ e104' rfl (by omega), e100, sI_e, pk_us, nI_1, nI_pred]
          obtain ⟨h1, h2, h3, h4, ⟨a1, a2, a3, a4, a5, a6, a7⟩, h6, h7, h8⟩ := h
          have eK : (nRk Mc y0 N).2.2.2.2.2 1 = Mc.2.2.2.2.2 1 := by
            show va_up (va_up Mc.2.2.2.2.2 0 (Mc.2.2.2.2.2 0 + 1)) (Mc.2.2.2.2.2 0 + 2) N 1 = _
            rw [va_up_ne _ _ (by omega), va_up_ne _ _ (by omega)]
          have h7' : R7 na nk (Mc.1 16) (Mc.1 11) (Mc.1 28) (Mc.1 29) (Mm.1 30) (Mm.1 31) (Mc.1 108 0) (Mc.1 109 0) (Mm.1 109 0) (Mc.2.2.1 33) ((nRk Mc y0 N).2.2.2.2.2 1) (nRk Mc y0 N).2.2.2.1 (Mm.1 32) (Mm.1 33) := by
            rw [eK]
            refine R7_dI (fun j => ⟨?_, ?_⟩) h7
            · show va_up (va_up Mc.2.2.2.1 (4 * Mc.2.2.2.2.2 0) _) (4 * Mc.2.2.2.2.2 0 + 1) _ (4 * j + 2) = _
              rw [va_up_ne _ _ (by omega), va_up_ne _ _ (by omega)]
            · show va_up (va_up Mc.2.2.2.1 (4 * Mc.2.2.2.2.2 0) _) (4 * Mc.2.2.2.2.2 0 + 1) _ (4 * j + 3) = _
              rw [va_up_ne _ _ (by omega), va_up_ne _ _ (by omega)]
          refine ⟨_, _, _, rfl, rfl, ns, nn, na, nr + 1, nk, h1, h2, R3_mono h3 (Nat.le_refl _) (by omega), h4, ⟨?_, ?_, by omega, ?_, fun r hr => ?_, fun r hr => ?_, fun r hr => ?_⟩, h6, h7', h8⟩
          · rw [sI_e, pk_us]
          · rw [sI_e, pk_us]
          · show va_up (va_up Mc.2.2.2.2.2 0 (Mc.2.2.2.2.2 0 + 1)) (Mc.2.2.2.2.2 0 + 2) N 0 = _
            rw [va_up_ne _ _ (by omega), va_up_self, a4]
          · show va_up (Mc.2.2.1 25) nr (some (Mc.2.2.2.2.2 0)) r = some r
            by_cases z : r = nr
            · rw [z, va_up_self, a4]
            · rw [va_up_ne _ _ z]; exact a5 r (by omega)
          · show va_up (Mc.2.2.1 25) nr (some (Mc.2.2.2.2.2 0)) r = none
            rw [va_up_ne _ _ (by omega)]; exact a6 r (by omega)
          · show va_up (va_up Mc.2.2.2.2.2 0 (Mc.2.2.2.2.2 0 + 1)) (Mc.2.2.2.2.2 0 + 2) N (r + 2) ≤ 20 ∧ upd (Mm.1 20) nr (nI N) r = nI (va_up (va_up Mc.2.2.2.2.2 0 (Mc.2.2.2.2.2 0 + 1)) (Mc.2.2.2.2.2 0 + 2) N (r + 2)) ∧ va_up (va_up Mc.2.2.2.1 (4 * Mc.2.2.2.2.2 0) (fun _ => y0)) (4 * Mc.2.2.2.2.2 0 + 1) (fl_ (fun _ => 0) 0 N (-1)) (4 * r) 0 = upd (Mm.1 19) nr y0 r ∧
              ∀ i, i < va_up (va_up Mc.2.2.2.2.2 0 (Mc.2.2.2.2.2 0 + 1)) (Mc.2.2.2.2.2 0 + 2) N (r + 2) → (va_up (va_up Mc.2.2.2.1 (4 * Mc.2.2.2.2.2 0) (fun _ => y0)) (4 * Mc.2.2.2.2.2 0 + 1) (fl_ (fun _ => 0) 0 N (-1)) (4 * r + 1) i = -1 ∧ fl_ (Mm.1 21) (20 * nr + 0) (20 * nr + 20) (-9) (20 * r + i) = -9) ∨
                (∃ L, L ≤ 20 ∧ va_up (va_up Mc.2.2.2.1 (4 * Mc.2.2.2.2.2 0) (fun _ => y0)) (4 * Mc.2.2.2.2.2 0 + 1) (fl_ (fun _ => 0) 0 N (-1)) (4 * r + 1) i = nI L ∧ fl_ (Mm.1 21) (20 * nr + 0) (20 * nr + 20) (-9) (20 * r + i) = nI L ∧ ∀ j, j < L → va_up Mc.2.2.2.2.1 (Mc.2.2.2.2.2 0) (fun _ => 0) r (i * 20 + j) = Mm.2.1 22 (400 * r + 20 * i + j))
            rw [a4]
            by_cases z : r = nr
            · subst z
              rw [va_up_self, pk_us, pk_us, va_up_ne _ _ (by omega), va_up_self, va_up_self]
              exact ⟨hN, rfl, rfl, fun i hi => .inl ⟨fl_in ⟨by omega, hi⟩, fl_in ⟨by omega, by omega⟩⟩⟩
            · obtain ⟨b1, b2, b3, b4⟩ := a7 r (by omega)
              rw [va_up_ne _ _ (by omega), va_up_ne _ _ (by omega), pk_un z, pk_un z, va_up_ne _ _ (by omega), va_up_ne _ _ (by omega), va_up_ne _ _ (by omega), va_up_ne _ _ (by omega), va_up_ne _ _ (by omega)]
              refine ⟨b1, b2, b3, fun i hi => ?_⟩
              rw [fl_out (by omega)]
              exact b4 i hi
        · rw [if_neg q0, if_neg q0]; exact meet_go h 5 (by decide) rfl
    · rw [if_neg q20, if_neg q20]; exact same_go h _
  · rw [e]; exact same_go h _
theorem sim_ended : Sim_ended Rel := by
  intro Mc Mm y0 ⟨ns, nn, na, nr, nk, h⟩
  have h6 := h.2.2.2.2.2.1
  unfold f_X11_ended f_X12_ended
  rw [in_w 0 5, wi_n y0 (b := 5) (m := 5) (n := 6) rfl rfl (by decide)]
  cases e : inN y0 6 with
  | false => exact ⟨_, _, _, ⟨rfl, rfl⟩, ⟨rfl, rfl⟩, ns, nn, na, nr, nk, h⟩
  | true =>
    obtain ⟨j, hj, rfl⟩ := inN_t e
    rw [bq_s, bq_s, bT, bT, ck_nI (by omega) (by omega), nI_clamp (by omega)]
    refine ⟨Mm.1 40 j, Mc, Mm, ⟨?_, rfl⟩, ⟨rfl, rfl⟩, ns, nn, na, nr, nk, h⟩
    by_cases q0 : j = 0
    · subst q0; rw [if_pos nI_0, h6.2.2.2.1]
    · rw [if_neg (nI_ne0 (by omega) (by omega))]
      by_cases q1 : j = 1
      · subst q1; rw [if_pos (show nI 1 = 1 from rfl), h6.2.2.2.2.1]
      · rw [if_neg (show ¬ nI j = 1 from fun z => q1 (nI_inj (b := 1) (by omega) (by omega) z))]
        by_cases q9 : Mc.1 104 0 = -9
        · rw [if_pos q9, q9]
          have := h6.2.2.2.2.2.1 q9 (j - 2) (by omega)
          rw [show 2 + (j - 2) = j by omega] at this
          rw [this]
        · rw [if_neg q9, i_n2, pk_sub (by omega), ck_nI (by omega) (by omega), nI_clamp (by omega)]
          have := h6.2.2.2.2.2.2 q9 (j - 2) (by omega)
          rw [show 2 + (j - 2) = j by omega] at this
          rw [this]
theorem sim_order : Sim_order Rel := by
  intro Mc Mm y0 y1 y2 ⟨ns, nn, na, nr, nk, h⟩
  have h2 := h.2.1
  have hn : nn ≤ 40 := h2.2.2.1
  have hna : na ≤ 12 := h2.2.2.2.2.2.1
  have h7 := h.2.2.2.2.2.2.1
  unfold f_X11_order f_X12_order
  rw [kn_eq h2.1 (by omega), no_eq h2.2.1 (by omega), in_w 0 6, wi_n y2 (b := 6) (m := 6) (n := 7) rfl rfl (by decide)]
  cases e : inN y0 nn with
  | false => exact same_go h _
  | true =>
    obtain ⟨j, hj, rfl⟩ := inN_t e
    cases g : inN y2 7 with
    | false => exact same_go h _
    | true =>
      obtain ⟨w, hw, rfl⟩ := inN_t g
      unfold f_X2_isAct
      rw [bq_s, bq_s, bT, bT, bq_s, bq_s, bT, bT, ck_nI (by omega) (by omega), ck_nI (by omega) (by omega), ck_nI (by omega) (by omega), ck_nI (by omega) (by omega), nI_clamp (by omega), h2.2.2.2.2.2.2.1.1]
      by_cases q3 : Mm.1 6 j = 3
      · obtain ⟨a, ha, e1, e2⟩ := h2.2.2.2.2.2.2.2.2.2.2.2.2.1 j hj (by rw [h2.2.2.2.2.2.2.1.1]; exact q3)
        obtain ⟨q, o1, o2, o3, o4⟩ := h7.1 a ha
        rw [e2, cN_n' (by omega)] at o2 o3
        have hq : q ≤ 16 := o4.2.1
        unfold f_X7_at f_X12_rowAt
        rw [if_pos q3, if_pos q3, bq_s, bT, e1, ck_nI (by omega) (by omega), nI_clamp (by omega), o1, o2, wi_p y1 (by omega), in_p y1 (by omega)]
        cases g2 : inN y1 q with
        | false => exact same_go h _
        | true =>
          obtain ⟨i, hi, rfl⟩ := inN_t g2
          simp only [bq_s, bT]
          rw [i_n16, i_n7, pk_mul, pk_mul, nI_add, nI_add, pk_mul, pk_mul, nI_add, nI_add, ck_nI (by omega) (by omega), ck_nI (by omega) (by omega), nI_clamp (by omega), nI_clamp (by omega), o3 i hi w hw]
          by_cases q5 : 5 ≤ w
          · simp only [if_pos (show (5 : Int32) ≤ nI w from nI_le (a := 5) (b := w) q5 (by omega)), Int32.add_zero]; exact same_go h _
          · simp only [if_neg (show ¬ (5 : Int32) ≤ nI w from nI_ge (a := w) (b := 5) (by omega) (by omega))]; rw [Int32.add_comm]; exact same_go h _
      · rw [if_neg q3, if_neg q3]; exact meet_go h 3 (by decide) rfl
