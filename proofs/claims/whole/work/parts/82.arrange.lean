/-! the pure half: the new order on both sides -/
def On3 (M M' : Mem) : Prop := (∀ c, c ≠ 57 → M'.1 c = M.1 c) ∧ (∀ c, c ≠ 56 → M'.2.1 c = M.2.1 c) ∧ M'.2.2 = M.2.2
section
variable {M0 : Mem} {rm cm an lp : Nat → Int32} {σ : Ws} {na : Nat}
theorem rt21 {v a q : Nat} (hv : v < 400) (ha : a < 12) (hq : q ≤ 16) (h29 : M0.1 29 a = nI q) (h28 : ∀ i, i < q → ∀ c, c < 7 → M0.1 28 ((a * 16 + i) * 7 + c) = cm (7 * (16 * wA σ v + i) + c)) (hl : ∀ d, d < 4 → M0.2.1 36 (v * 4 + d) = wL σ (v * 4 + d)) (hw : ∀ i, i < q → ∃ w, 1 ≤ w ∧ w ≤ 400 ∧ cm (7 * (16 * wA σ v + i) + 5) = nI w) :
    ∀ r i f M, i + r = q → r < f → OnL 56 M0 M → (∀ j, j < i → M.2.1 56 (v * 16 + j) = timO cm σ v j) → ∃ M', f_X10_reckonTimes_21 f (nI v) (nI a) (nI i) M = some M' ∧ OnL 56 M0 M' ∧ (∀ j, j < q → M'.2.1 56 (v * 16 + j) = timO cm σ v j) ∧ ∀ j, j < v * 16 → M'.2.1 56 j = M.2.1 56 j := by
  intro r
  induction r with
  | zero =>
    intro i f M hi hf hO h1
    obtain ⟨f, rfl⟩ : ∃ z, f = z + 1 := ⟨f - 1, by omega⟩
    have : i = q := by omega
    subst this
    rw [f_X10_reckonTimes_21, ck_nI (by omega) (by omega), nI_clamp (by omega), hO.1, h29, if_pos (nI_le (by omega) (by omega))]
    exact ⟨M, rfl, hO, h1, fun _ _ => rfl⟩
  | succ r ih =>
    intro i f M hi hf hO h1
    obtain ⟨f, rfl⟩ : ∃ z, f = z + 1 := ⟨f - 1, by omega⟩
    obtain ⟨w, w1, w2, w3⟩ := hw i (by omega)
    have e28 : ∀ c, c < 7 → M.1 28 ((a * 16 + i) * 7 + c) = cm (7 * (16 * wA σ v + i) + c) := fun c hc => by rw [hO.1]; exact h28 i (by omega) c hc
    have e36 : ∀ d, d < 4 → M.2.1 36 (v * 4 + d) = wL σ (v * 4 + d) := fun d hd => by rw [hO.2.1 36 (by decide)]; exact hl d hd
    rw [f_X10_reckonTimes_21, ck_nI (by omega) (by omega), nI_clamp (by omega), hO.1, h29, if_neg (nI_ge (by omega) (by omega))]
    unfold f_X7_at
    rw [bq_s, i_n16, i_n7, pk_mul, nI_add, pk_mul, ck_nI (by omega) (by omega), nI_clamp (by omega), ← hO.1, i_n0, rt_c hv ha (by omega) rfl e28 e36 w1 w2 w3]
    obtain ⟨M', g1, g2, g3, g4⟩ := ih (i + 1) f (sL M 56 (v * 16 + i) (timO cm σ v i)) (by omega) (by omega) (OnL_s hO) (fun j hj => by
      by_cases z : j = i
      · rw [z, sL_e, pk_uLs]
      · rw [sL_e, pk_uLn (by omega)]; exact h1 j (by omega))
    refine ⟨M', g1, g2, g3, fun j hj => ?_⟩
    rw [g4 j hj, sL_e, pk_uLn (by omega)]
theorem ar10 (hV : VW na an σ (M0.1 110 0) (M0.1 35) (M0.2.1 36)) (hna : na ≤ 12) (hO : OW na an lp (M0.1 29) (M0.1 28) rm cm) (hk : ∀ v, v < wN σ → wA σ v < 40) :
    ∀ r v f M, v + r = wN σ → r < f → On3 M0 M → TmC rm cm σ M v → (∀ i, i < v → M.1 57 i = nI i) → ∃ M', f_X10_arrange_10 f (nI v) M = f_X10_arrange_41 100000 1 M' ∧ On3 M0 M' ∧ TmC rm cm σ M' (wN σ) ∧ ∀ i, i < wN σ → M'.1 57 i = nI i := by
  obtain ⟨h110, hN, hV3⟩ := hV
  have rows : ∀ v, v < wN σ → ∃ a q, a < 12 ∧ M0.1 35 v = nI a ∧ q ≤ 16 ∧ M0.1 29 a = nI q ∧ cN_ (rm (wA σ v)) = q ∧ (∀ i, i < q → ∀ c, c < 7 → M0.1 28 ((a * 16 + i) * 7 + c) = cm (7 * (16 * wA σ v + i) + c)) ∧ (∀ i, i < q → ∃ w, 1 ≤ w ∧ w ≤ 400 ∧ cm (7 * (16 * wA σ v + i) + 5) = nI w) := by
    intro v hv
    have k1 := hk v hv
    obtain ⟨⟨a, ha, a1, a2⟩, _⟩ := hV3 v hv
    obtain ⟨q, m1, m2, m4, m3⟩ := hO a ha
    have ea : cN_ (an a) = wA σ v := by rw [a2]; exact cN_n' (by omega)
    rw [ea] at m2 m3 m4
    have hq : q ≤ 16 := m3.2.1
    exact ⟨a, q, by omega, a1, hq, m1, by rw [m2]; exact cN_n' (by omega), m4, m3.2.2.2.2.1⟩
  intro r
  induction r with
  | zero =>
    intro v f M hv hf h3 hT h57
    obtain ⟨f, rfl⟩ : ∃ z, f = z + 1 := ⟨f - 1, by omega⟩
    have : v = wN σ := by omega
    subst this
    rw [f_X10_arrange_10, h3.1 110 (by decide), h110, if_pos (nI_le (by omega) (by omega))]
    exact ⟨M, rfl, h3, hT, h57⟩
  | succ r ih =>
    intro v f M hv hf h3 hT h57
    obtain ⟨f, rfl⟩ : ∃ z, f = z + 1 := ⟨f - 1, by omega⟩
    obtain ⟨a, q, ha, a1, hq, q1, q2, q3, q4⟩ := rows v (by omega)
    obtain ⟨M', g1, g2, g3, g4⟩ := rt21 (M0 := M) (cm := cm) (σ := σ) (v := v) (a := a) (q := q) (by omega) ha hq (by rw [h3.1 29 (by decide)]; exact q1) (fun i hi c hc => by rw [h3.1 28 (by decide)]; exact q3 i hi c hc) (fun d hd => by rw [h3.2.1 36 (by decide)]; exact (hV3 v (by omega)).2 d hd) q4 q 0 100000 M (by omega) (by omega) (OnL_r 56 M) (fun j hj => absurd hj (by omega))
    rw [f_X10_arrange_10, h3.1 110 (by decide), h110, if_neg (nI_ge (by omega) (by omega))]
    unfold f_X10_reckonTimes
    rw [ck_nI (by omega) (by omega), nI_clamp (by omega), h3.1 35 (by decide), a1, i_n0, g1, bm_s, ck_nI (by omega) (by omega), nI_1]
    refine ih (v + 1) f _ (by omega) (by omega) ⟨fun c z => by rw [sI_n z, g2.1]; exact h3.1 c z, fun c z => by rw [sI_2, g2.2.1 c z]; exact h3.2.1 c z, by rw [sI_2, g2.2.2]; exact h3.2.2⟩ (fun u hu i hi => ?_) (fun i hi => ?_)
    · rw [sI_2]
      by_cases z : u = v
      · subst z
        rw [q2] at hi
        exact g3 i hi
      · obtain ⟨b, p, _, _, hp, _, p2, _, _⟩ := rows u (by omega)
        rw [g4 _ (by omega)]
        exact hT u (by omega) i hi
    · by_cases z : i = v
      · rw [z, sI_e, pk_us]
      · rw [sI_e, pk_un z, g2.1]; exact h57 i (by omega)
theorem ask_c (hV : VW na an σ (M0.1 110 0) (M0.1 35) (M0.2.1 36)) (hna : na ≤ 12) (hO : OW na an lp (M0.1 29) (M0.1 28) rm cm) (hk : ∀ v, v < wN σ → wA σ v < 40) (hT : TmC rm cm σ M0 (wN σ)) : Ask M0 (ahd rm cm σ) (wN σ) := by
  intro M h2 v w hvw hw
  have := ib_eq (M := M) (rm := rm) (cm := cm) (σ := σ) (na := na) (an := an) (lp := lp) (v := v) (w := w) (by rw [h2.1 110 (by decide) (by decide), h2.1 35 (by decide) (by decide), h2.2]; exact hV) hna (by rw [h2.1 29 (by decide) (by decide), h2.1 28 (by decide) (by decide)]; exact hO) hk (fun u hu i hi => by rw [h2.2]; exact hT u hu i hi) (by omega) hw
  refine ⟨_, this, fun z => .inl z, fun z => ?_⟩
  rcases ahd_tot (rm := rm) (cm := cm) (σ := σ) (show v ≠ w by omega) with y | y
  · exact y
  · rcases y with y | y
    · rw [z] at y; exact absurd y (by decide)
    · omega
/-- the class arranges -/
theorem arr_c (h117 : ¬ zb (M0.1 117 0) = true) (hV : VW na an σ (M0.1 110 0) (M0.1 35) (M0.2.1 36)) (hna : na ≤ 12) (hO : OW na an lp (M0.1 29) (M0.1 28) rm cm) (hk : ∀ v, v < wN σ → wA σ v < 40) :
    ∃ M', f_X10_arrange M0 = some M' ∧ M'.1 117 0 = bI true ∧ QW (wN σ) (ahd rm cm σ) (M'.1 57) (M'.1 59) ∧ (∀ c, c ≠ 57 → c ≠ 58 → c ≠ 59 → c ≠ 117 → M'.1 c = M0.1 c) ∧ (∀ c, c ≠ 56 → M'.2.1 c = M0.2.1 c) ∧ M'.2.2 = M0.2.2 := by
  have hN := hV.2.1
  unfold f_X10_arrange
  rw [if_neg h117]
  obtain ⟨M1, a1, a2, a3, a4⟩ := ar10 (rm := rm) (cm := cm) hV hna hO hk (wN σ) 0 100000 M0 (by omega) (by omega) ⟨fun _ _ => rfl, fun _ _ => rfl, rfl⟩ (fun v hv => absurd hv (by omega)) (fun v hv => absurd hv (by omega))
  rw [i_n0, a1]
  have hA : Ask M1 (ahd rm cm σ) (wN σ) := ask_c (na := na) (an := an) (lp := lp) (by rw [a2.1 110 (by decide), a2.1 35 (by decide), a2.2.1 36 (by decide)]; exact hV) hna (by rw [a2.1 29 (by decide), a2.1 28 (by decide)]; exact hO) hk a3
  obtain ⟨s, M2, b1, b2, b3, b4⟩ := ar41 (Lin_a rm cm σ) hN (by rw [a2.1 110 (by decide)]; exact hV.1) hA (wN σ) 1 100000 M1 (fun i => i) (by omega) (by omega) (by omega) (by omega) (On2_r M1) a4 (fun k hk => by
    have e : min (0 + k * 1 + 1) (wN σ) = 0 + k * 1 + 1 := by omega
    rw [e]
    exact ⟨fun i x y => ⟨x, y⟩, fun v x y => ⟨v, x, y, rfl⟩, fun i j x y z => by omega⟩)
  have b1 : f_X10_arrange_41 100000 1 M1 = f_X10_arrange_108 100000 0 M2 := b1
  rw [b1]
  have sv : ∀ i, i < wN σ → s i < wN σ := fun i hi => (b4.1 i (by omega) hi).2
  have so : ∀ i j, i < j → j < wN σ → ahd rm cm σ (s i) (s j) := fun i j x y => b4.2.2 i j (by omega) x y
  obtain ⟨M3, c1, c2, c3⟩ := ar108 (M0 := M2) (s := s) (n := wN σ) hN (by rw [b2.1 110 (by decide) (by decide), a2.1 110 (by decide)]; exact hV.1) (fun i hi => ⟨b3 i hi, sv i hi⟩) (fun i j hi hj e => by
    rcases Nat.lt_trichotomy i j with z | z | z
    · have := so i j z hj; rw [e] at this; exact absurd this (ahd_irr _)
    · exact z
    · have := so j i z hi; rw [e] at this; exact absurd this (ahd_irr _)) (wN σ) 0 100000 M2 (by omega) (by omega) (On_r 59 M2) (fun i hi => absurd hi (by omega))
  have c1 : f_X10_arrange_108 100000 0 M2 = _ := c1
  rw [c1]
  refine ⟨sI M3 117 0 (bI true), rfl, by rw [sI_e, pk_us], ?_, fun c x1 x2 x3 x4 => by rw [sI_n x4, c2.1 c x3, b2.1 c x1 x2, a2.1 c x1], fun c x => by rw [sI_2, c2.2, b2.2, a2.2.1 c x], by rw [sI_2, c2.2, b2.2, a2.2.2]⟩
  rw [sI_n (by decide), sI_n (by decide)]
  exact QW_mk (s := s) hN (fun i hi => ⟨by rw [c2.1 57 (by decide)]; exact b3 i hi, sv i hi, c3 i hi⟩) (fun v hv => by
    obtain ⟨i, _, i2, i3⟩ := b4.2.1 v (by omega) hv
    exact ⟨i, i2, i3⟩) so
end
section
variable {ns nn na nr nk : Nat} {Mc Mm : Mem}
/-- frames of what arranging changes -/
def AFr (M M' : Mem) : Prop := (∀ c, c ≠ 57 → c ≠ 58 → c ≠ 59 → c ≠ 117 → M'.1 c = M.1 c) ∧ (∀ c, c ≠ 56 → M'.2.1 c = M.2.1 c) ∧ M'.2.2 = M.2.2
theorem AFr_C {M M' : Mem} (h : AFr M M') : CFr M M' := ⟨fun c z => by unfold cRl at z; exact h.1 c (by omega) (by omega) (by omega) (by omega), h.2.1 101 (by decide), h.2.1 68 (by decide), h.2.2⟩
theorem wk40 (h : RelN ns nn na nr nk Mc Mm) : ∀ v, v < wN (wkA (pgM nn Mm)) → wA (wkA (pgM nn Mm)) v < 40 := by
  intro v hv
  have := ((wkA_ok (P := pgM nn Mm)).2 v hv).1
  have hn : nn ≤ 40 := h.2.1.2.2.1
  have e : (pgM nn Mm).1 = nn := rfl
  omega
theorem arranges (h : RelN ns nn na nr nk Mc Mm) (h113 : zb (Mc.1 113 0) = true) (h112 : zb (Mc.1 112 0) = false) :
    ∃ Mc1, f_X10_arrange Mc = some Mc1 ∧ RelN ns nn na nr nk Mc1 Mm ∧ AFr Mc Mc1 ∧ zb (Mc1.1 117 0) = true ∧ QW (wN (wkA (pgM nn Mm))) (ahd (Mm.1 30) (Mm.1 31) (wkA (pgM nn Mm))) (Mc1.1 57) (Mc1.1 59) := by
  have h8 := h.2.2.2.2.2.2.2
  have hna : na ≤ 12 := h.2.1.2.2.2.2.2.1
  by_cases q : zb (Mc.1 117 0) = true
  · refine ⟨Mc, by unfold f_X10_arrange; rw [if_pos q], h, ⟨fun _ _ _ _ _ => rfl, fun _ _ => rfl, rfl⟩, q, (h8.2.2.2.1 q).2.2⟩
  · have v := h8.1 h113
    have e : wS (wkA (pgM nn Mm)) = false := by rw [← v.1]; exact h112
    obtain ⟨M', e1, e2, e3, e4, e5, e6⟩ := arr_c (M0 := Mc) (rm := Mm.1 30) (cm := Mm.1 31) q (v.2 e) hna h.2.2.2.2.2.2.1.1 (wk40 h)
    have hF : AFr Mc M' := ⟨e4, e5, e6⟩
    refine ⟨M', e1, RelN_fr h (AFr_C hF) (MFr_r Mm) ?_, hF, by rw [e2]; decide, e3⟩
    have g : ∀ c, c ≠ 57 → c ≠ 58 → c ≠ 59 → c ≠ 117 → M'.1 c = Mc.1 c := e4
    unfold R8'
    rw [g 16 (by decide) (by decide) (by decide) (by decide), g 11 (by decide) (by decide) (by decide) (by decide), g 14 (by decide) (by decide) (by decide) (by decide), g 110 (by decide) (by decide) (by decide) (by decide), g 112 (by decide) (by decide) (by decide) (by decide), g 113 (by decide) (by decide) (by decide) (by decide), g 114 (by decide) (by decide) (by decide) (by decide), g 115 (by decide) (by decide) (by decide) (by decide), g 116 (by decide) (by decide) (by decide) (by decide), g 118 (by decide) (by decide) (by decide) (by decide), g 119 (by decide) (by decide) (by decide) (by decide), g 120 (by decide) (by decide) (by decide) (by decide), g 121 (by decide) (by decide) (by decide) (by decide), g 122 (by decide) (by decide) (by decide) (by decide), g 123 (by decide) (by decide) (by decide) (by decide), g 35 (by decide) (by decide) (by decide) (by decide), e5 36 (by decide), e5 39 (by decide), e5 40 (by decide), g 41 (by decide) (by decide) (by decide) (by decide), g 44 (by decide) (by decide) (by decide) (by decide), g 45 (by decide) (by decide) (by decide) (by decide), g 46 (by decide) (by decide) (by decide) (by decide), g 47 (by decide) (by decide) (by decide) (by decide), e5 49 (by decide), e5 50 (by decide), g 62 (by decide) (by decide) (by decide) (by decide)]
    exact ⟨h8.1, h8.2.1, h8.2.2.1, fun _ => ⟨h113, h112, e3⟩, fun z => absurd (h8.2.2.2.2.1 z).1 q, fun z => absurd (h8.2.2.2.2.2 z).1 q⟩
/-- both lay the new order -/
theorem lays (h : RelN ns nn na nr nk Mc Mm) (hVM : VM (wkA (pgM nn Mm)) Mm) (hV : VW na (Mc.1 16) (wkA (pgM nn Mm)) (Mc.1 110 0) (Mc.1 35) (Mc.2.1 36)) :
    ∃ Mm1, f_X12_layOrder Mm = some Mm1 ∧ RelN ns nn na nr nk Mc Mm1 ∧ MFr Mm Mm1 ∧ VM (wkA (pgM nn Mm)) Mm1 ∧ QW (wN (wkA (pgM nn Mm))) (ahd (Mm.1 30) (Mm.1 31) (wkA (pgM nn Mm))) (Mm1.1 38) (Mm1.1 39) ∧ (∀ c, c ≠ 38 → c ≠ 39 → Mm1.1 c = Mm.1 c) ∧ (∀ c, c ≠ 37 → Mm1.2.1 c = Mm.2.1 c) ∧ Mm1.2.2 = Mm.2.2 := by
  obtain ⟨Mm1, e1, e2, e3, e4, e5, e6, e7⟩ := lay_m (M0 := Mm) (rm := Mm.1 30) (cm := Mm.1 31) (σ := wkA (pgM nn Mm)) hVM hV.2.1 (wk40 h) rfl rfl (fun v hv => by
    have k1 := wk40 h v hv
    obtain ⟨⟨a, ha, a1, a2⟩, _⟩ := hV.2.2 v hv
    obtain ⟨q, m1, m2, m4, m3⟩ := h.2.2.2.2.2.2.1.1 a ha
    have ea : cN_ (Mc.1 16 a) = wA (wkA (pgM nn Mm)) v := by rw [a2]; exact cN_n' (by omega)
    rw [ea] at m2 m3
    exact ⟨q, m3.2.1, m2, m3.2.2.2.2.1⟩)
  exact ⟨Mm1, e1, RelN_fr h (CFr_r Mc) e2 (R8_m h.2.2.2.2.2.2.2 e2), e2, e3, e4, e5, e6, e7⟩
end
theorem sim_visit : Sim_visit Rel := by
  intro Mc Mm y0 y1 y2 ⟨ns, nn, na, nr, nk, h⟩
  unfold f_X11_visit f_X12_visit
  rw [in_w 0 4, wi_n y1 (b := 4) (m := 4) (n := 5) rfl rfl (by decide)]
  cases g : inN y1 5 with
  | false => exact same_go h _
  | true =>
    obtain ⟨d, hd, rfl⟩ := inN_t g
    obtain ⟨Mc1, Mm1, c1, m1, hR, hcF, hmF, hv⟩ := walks h
    simp only [bq_s, bT, if_true, c1, m1, bd_s]
    have hna : na ≤ 12 := hR.2.1.2.2.2.2.2.1
    cases es : wS (wkA (pgM nn Mm)) with
    | true => exact same_go hR _
    | false =>
      obtain ⟨v1, v2, v3, v4⟩ := hv es
      rw [← MFr_pg hmF nn] at v1 v4
      have hN := v4.2.1
      rw [bF, bF, v4.1, v1.1, in_p _ (by omega), wi_p _ (by omega)]
      cases e0 : inN y0 (wN (wkA (pgM nn Mm1))) with
      | false => exact same_go hR _
      | true =>
        obtain ⟨i, hi, rfl⟩ := inN_t e0
        rw [bq_s, bq_s, bT, bT]
        have fin : ∀ {Mc2 Mm2 : Mem} {u : Nat}, RelN ns nn na nr nk Mc2 Mm2 → u < wN (wkA (pgM nn Mm1)) → VM (wkA (pgM nn Mm1)) Mm2 → VW na (Mc2.1 16) (wkA (pgM nn Mm1)) (Mc2.1 110 0) (Mc2.1 35) (Mc2.2.1 36) →
            ∃ (r : Int32) (Mc3 Mm3 : Mem), (if nI d = 0 then bq (f_X0_actNode Mc2 (nI u)) (fun r20 => some (r20, Mc2)) else bq (f_X0_letter Mc2 (nI u) (nI d - 1)) (fun r17 => some ((100000 + r17).toInt32, Mc2))) = some (r, Mc3) ∧ f_X12_visit_62 (nI d) (nI u) Mm2 = some (r, Mm3) ∧ Rel Mc3 Mm3 := by
          intro Mc2 Mm2 u hR2 hu hVM hV
          unfold f_X12_visit_62
          by_cases z : d = 0
          · subst z
            rw [if_pos (show nI 0 = 0 from rfl), if_pos (show nI 0 = 0 from rfl), aN_eq hV hna hu, bq_s, ck_nI (by omega) (by omega), nI_clamp (by omega), hVM.2.1 u hu]
            exact same_go hR2 _
          · have nz : ¬ nI d = 0 := fun y => z (nI_inj (by omega) (by omega) (show nI d = nI 0 from y))
            obtain ⟨d', rfl⟩ : ∃ x, d = x + 1 := ⟨d - 1, by omega⟩
            rw [if_neg nz, if_neg nz, nI_pred, lt_eq hV hu (by omega), bq_s, i_n4, pk_mul, nI_add, ← Nat.add_assoc, nI_pred, ck_nI (by omega) (by omega), nI_clamp (by omega), hVM.2.2 _ (by omega), Nat.mul_comm 4 u]
            exact same_go hR2 _
        unfold f_X11_visitAt
        cases y2 with
        | false =>
          rw [bF, bF, bd_s]
          exact fin hR hi v1 v4
        | true =>
          obtain ⟨Mc2, x1, x2, x3, x4, x5⟩ := arranges hR v2 v3
          have hV2 : VW na (Mc2.1 16) (wkA (pgM nn Mm1)) (Mc2.1 110 0) (Mc2.1 35) (Mc2.2.1 36) := by
            rw [x3.1 16 (by decide) (by decide) (by decide) (by decide), x3.1 110 (by decide) (by decide) (by decide) (by decide), x3.1 35 (by decide) (by decide) (by decide) (by decide), x3.2.1 36 (by decide)]
            exact v4
          obtain ⟨Mm2, w1, w2, w3, w4, w5, w6, w7, w8⟩ := lays x2 v1 hV2
          rw [bT, bT, x1, bm_s, w1, bm_s, ck_nI (by omega) (by omega), ck_nI (by omega) (by omega), bd_s, nI_clamp (by omega), ← (QW_un hN (Lin_a _ _ _) x5 w5).1 i hi, (x5.1 i hi).1]
          exact fin w2 (x5.1 i hi).2.1 w4 hV2
