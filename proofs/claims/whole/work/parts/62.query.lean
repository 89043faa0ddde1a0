/-! the pure half: calls that look at the visits -/
def cRl (c : Nat) : Prop := c ≤ 29 ∨ c = 67 ∨ (100 ≤ c ∧ c ≤ 109)
def mRl (c : Nat) : Prop := c ≤ 4 ∨ (6 ≤ c ∧ c ≤ 17) ∨ (19 ≤ c ∧ c ≤ 22) ∨ (30 ≤ c ∧ c ≤ 33) ∨ c = 40 ∨ (100 ≤ c ∧ c ≤ 104) ∨ c = 109
/-- scratch cells alone have changed -/
def CFr (M M' : Mem) : Prop := (∀ c, cRl c → M'.1 c = M.1 c) ∧ M'.2.1 101 = M.2.1 101 ∧ M'.2.1 68 = M.2.1 68 ∧ M'.2.2 = M.2.2
def MFr (M M' : Mem) : Prop := (∀ c, mRl c → M'.1 c = M.1 c) ∧ M'.2.1 22 = M.2.1 22 ∧ M'.2.1 105 = M.2.1 105
theorem CFr_r (M : Mem) : CFr M M := ⟨fun _ _ => rfl, rfl, rfl, rfl⟩
theorem MFr_r (M : Mem) : MFr M M := ⟨fun _ _ => rfl, rfl, rfl⟩
theorem CFr_t {M1 M2 M3 : Mem} (h : CFr M1 M2) (g : CFr M2 M3) : CFr M1 M3 := ⟨fun c q => (g.1 c q).trans (h.1 c q), g.2.1.trans h.2.1, g.2.2.1.trans h.2.2.1, g.2.2.2.trans h.2.2.2⟩
theorem MFr_t {M1 M2 M3 : Mem} (h : MFr M1 M2) (g : MFr M2 M3) : MFr M1 M3 := ⟨fun c q => (g.1 c q).trans (h.1 c q), g.2.1.trans h.2.1, g.2.2.trans h.2.2⟩
theorem MFr_pg {M M' : Mem} (h : MFr M M') (n : Nat) : pgM n M' = pgM n M := by
  unfold pgM
  rw [h.1 2 (by unfold mRl; omega), h.1 4 (by unfold mRl; omega), h.1 6 (by unfold mRl; omega), h.1 7 (by unfold mRl; omega), h.1 8 (by unfold mRl; omega), h.1 9 (by unfold mRl; omega), h.1 10 (by unfold mRl; omega)]
def R8' (na nn : Nat) (Mc Mm : Mem) : Prop := R8 na (Mc.1 16) (Mc.1 11) (Mc.1 14) (pgM nn Mm) (Mm.1 11) (Mm.1 12) (Mm.1 13) (Mm.1 30) (Mm.1 31) (Mc.1 110 0) (Mc.1 112 0) (Mc.1 113 0) (Mc.1 114 0) (Mc.1 115 0) (Mc.1 116 0) (Mc.1 117 0) (Mc.1 118 0) (Mc.1 119 0) (Mc.1 120 0) (Mc.1 121 0) (Mc.1 122 0) (Mc.1 123 0)
    (Mc.1 35) (Mc.2.1 36) (Mc.2.1 39) (Mc.2.1 40) (Mc.1 41) (Mc.1 44) (Mc.1 45) (Mc.1 46) (Mc.1 47) (Mc.2.1 49) (Mc.2.1 50) (Mc.1 57) (Mc.1 59) (Mc.1 62)
theorem RelN_fr {ns nn na nr nk : Nat} {Mc Mm Mc' Mm' : Mem} (h : RelN ns nn na nr nk Mc Mm) (hc : CFr Mc Mc') (hm : MFr Mm Mm') (h8' : R8' na nn Mc' Mm') : RelN ns nn na nr nk Mc' Mm' := by
  obtain ⟨h1, h2, h3, h4, h5, h6, h7, h8⟩ := h
  obtain ⟨c0, c1, c2, c3⟩ := hc
  obtain ⟨m0, m1, m2⟩ := hm
  have cc : ∀ c, c ≤ 29 → Mc'.1 c = Mc.1 c := fun c q => c0 c (.inl q)
  have cs : ∀ c, 100 ≤ c → c ≤ 109 → Mc'.1 c = Mc.1 c := fun c q r => c0 c (.inr (.inr ⟨q, r⟩))
  have ma : ∀ c, mRl c → Mm'.1 c = Mm.1 c := m0
  refine ⟨?_, ?_, ?_, ?_, ?_, ?_, ?_, h8'⟩
  · rw [cs 105 (by omega) (by omega), cc 2 (by omega), cc 3 (by omega), cc 4 (by omega), ma 101 (by unfold mRl; omega), ma 2 (by unfold mRl; omega), ma 3 (by unfold mRl; omega), ma 4 (by unfold mRl; omega)]
    exact h1
  · rw [cs 106 (by omega) (by omega), cs 107 (by omega) (by omega), ma 102 (by unfold mRl; omega), ma 103 (by unfold mRl; omega), cc 6 (by omega), cc 7 (by omega), cc 8 (by omega), cc 9 (by omega), cc 10 (by omega), cc 11 (by omega), cc 12 (by omega), cc 13 (by omega), cc 14 (by omega), cc 15 (by omega), cc 16 (by omega), cc 17 (by omega),
      ma 6 (by unfold mRl; omega), ma 7 (by unfold mRl; omega), ma 8 (by unfold mRl; omega), ma 9 (by unfold mRl; omega), ma 10 (by unfold mRl; omega)]
    exact h2
  · rw [cc 16 (by omega), cc 18 (by omega), cc 19 (by omega), cc 20 (by omega), ma 11 (by unfold mRl; omega), ma 12 (by unfold mRl; omega), ma 13 (by unfold mRl; omega)]
    exact h3
  · rw [cc 22 (by omega), cc 23 (by omega), cc 24 (by omega), ma 14 (by unfold mRl; omega), ma 15 (by unfold mRl; omega), ma 16 (by unfold mRl; omega), ma 17 (by unfold mRl; omega)]
    exact h4
  · rw [cs 100 (by omega) (by omega), ma 104 (by unfold mRl; omega), c3, ma 19 (by unfold mRl; omega), ma 20 (by unfold mRl; omega), ma 21 (by unfold mRl; omega), m1]
    exact h5
  · rw [c1, m2, cs 102 (by omega) (by omega), ma 100 (by unfold mRl; omega), cs 103 (by omega) (by omega), cs 104 (by omega) (by omega), c0 67 (.inr (.inl rfl)), ma 1 (by unfold mRl; omega), ma 40 (by unfold mRl; omega), c2]
    exact h6
  · rw [cc 16 (by omega), cc 11 (by omega), cc 28 (by omega), cc 29 (by omega), ma 30 (by unfold mRl; omega), ma 31 (by unfold mRl; omega), cs 108 (by omega) (by omega), cs 109 (by omega) (by omega), ma 109 (by unfold mRl; omega), c3, ma 32 (by unfold mRl; omega), ma 33 (by unfold mRl; omega)]
    exact h7
/-- the visits as the reference keeps them -/
def VM (σ : Ws) (M : Mem) : Prop := M.1 106 0 = nI (wN σ) ∧ (∀ v, v < wN σ → M.1 23 v = nI (wA σ v)) ∧ ∀ j, j < wN σ * 4 → M.2.1 24 j = wL σ j
section
variable {ns nn na nr nk : Nat} {Mc Mm : Mem}
theorem FrW_C {M M' : Mem} (h : FrW M M') : CFr M M' := by
  refine ⟨fun c q => ?_, h.2.1 101 (by decide) (by decide), h.2.1 68 (by decide) (by decide), h.2.2⟩
  unfold cRl at q
  exact h.1 c (by omega) (by omega) (by omega) (by omega)
theorem FrM_M {M M' : Mem} (h : FrM M M') : MFr M M' := by
  refine ⟨fun c q => ?_, h.2.1 22 (by decide) (by decide) (by decide), h.2.1 105 (by decide) (by decide) (by decide)⟩
  unfold mRl at q
  exact h.1 c (by omega) (by omega) (by omega) (by omega) (by omega) (by omega)
theorem R8_m {Mm' : Mem} (h : R8' na nn Mc Mm) (hm : MFr Mm Mm') : R8' na nn Mc Mm' := by
  unfold R8' at *
  rw [MFr_pg hm, hm.1 11 (by unfold mRl; omega), hm.1 12 (by unfold mRl; omega), hm.1 13 (by unfold mRl; omega), hm.1 30 (by unfold mRl; omega), hm.1 31 (by unfold mRl; omega)]
  exact h
/-- both walks -/
theorem walks (h : RelN ns nn na nr nk Mc Mm) : ∃ Mc1 Mm1, f_X11_tooMany Mc = some (wS (wkA (pgM nn Mm)), Mc1) ∧ f_X12_walk Mm = some (wS (wkA (pgM nn Mm)), Mm1) ∧ RelN ns nn na nr nk Mc1 Mm1 ∧ CFr Mc Mc1 ∧ MFr Mm Mm1 ∧
    (wS (wkA (pgM nn Mm)) = false → VM (wkA (pgM nn Mm)) Mm1 ∧ zb (Mc1.1 113 0) = true ∧ zb (Mc1.1 112 0) = false ∧ VW na (Mc1.1 16) (wkA (pgM nn Mm)) (Mc1.1 110 0) (Mc1.1 35) (Mc1.2.1 36)) := by
  have hh := h
  obtain ⟨h1, h2, h3, h4, h5, h6, h7, h8⟩ := h
  obtain ⟨a1, a2, a3, a4, a5, a6, a7⟩ := h1
  obtain ⟨b1, b2, b3, b4, b5, b6, ⟨k1, k2, k3, k4, k5⟩, bT, bL, bA, bP, bC⟩ := h2
  have hP : pgM nn Mm = (nn, Mc.1 2, Mc.1 4, Mc.1 9, Mc.1 10, Mc.1 11, Mc.1 12, Mc.1 13) := by
    unfold pgM
    rw [a5, a7, k1, k2, k3, k4, k5]
  have hTm : TW ns (pgM nn Mm).1 (pKd (pgM nn Mm)) (pPa (pgM nn Mm)) (pLp (pgM nn Mm)) (pFi (pgM nn Mm)) (pSe (pgM nn Mm)) := by
    rw [hP]; exact bT
  obtain ⟨Mm1, m1, m2, m3⟩ := mw_all (M0 := Mm) (P := pgM nn Mm) rfl b2 b3 a4 hTm
  have hmF := FrM_M m3
  generalize hσ : wkA (pgM nn Mm) = σ at *
  have hVM : wS σ = false → VM σ Mm1 := by
    intro z
    rcases m2 with ⟨q, _⟩ | ⟨_, q⟩
    · rw [q] at z; exact absurd z (by decide)
    · exact ⟨q.1, q.2.2.2.2.1, q.2.2.2.2.2.1⟩
  unfold f_X11_tooMany
  by_cases q : zb (Mc.1 113 0) = true
  · have e : f_X0_refresh Mc = some Mc := by unfold f_X0_refresh; rw [if_pos q]
    have g := h8.1 q
    rw [hσ] at g
    rw [e, bm_s, g.1]
    refine ⟨Mc, Mm1, rfl, m1, RelN_fr hh (CFr_r Mc) hmF (R8_m h8 hmF), CFr_r Mc, hmF, fun z => ⟨hVM z, q, by rw [g.1]; exact z, g.2 z⟩⟩
  · obtain ⟨Mc', c1, c2, c3⟩ := cw_refresh (M0 := Mc) (P := pgM nn Mm) hP b3 a4 bT bL q
    rw [hσ] at c2
    rw [c1, bm_s]
    obtain ⟨w1, w2, w3, w4, w5, w6, w7, w8, w9⟩ := c2
    have hcF : CFr Mc (sI Mc' 113 0 (bI true)) := by
      have t := FrW_C c3
      refine ⟨fun c z => ?_, t.2.1, t.2.2.1, t.2.2.2⟩
      rw [sI_n (by unfold cRl at z; omega)]; exact t.1 c z
    have e112 : (sI Mc' 113 0 (bI true)).1 112 0 = bI (wS σ) := by rw [sI_n (by decide)]; exact w3
    have e113 : (sI Mc' 113 0 (bI true)).1 113 0 = bI true := by rw [sI_e, pk_us]
    have e16 : (sI Mc' 113 0 (bI true)).1 16 = Mc.1 16 := hcF.1 16 (.inl (by omega))
    have hV : VW na ((sI Mc' 113 0 (bI true)).1 16) σ ((sI Mc' 113 0 (bI true)).1 110 0) ((sI Mc' 113 0 (bI true)).1 35) ((sI Mc' 113 0 (bI true)).2.1 36) := by
      refine ⟨by rw [sI_n (by decide)]; exact w1, w7, fun v hv => ⟨?_, fun d hd => ?_⟩⟩
      · have ok := (wkA_ok (P := pgM nn Mm)).2
        rw [hσ] at ok
        obtain ⟨o1, o2⟩ := ok v hv
        obtain ⟨a, ha, x1, x2⟩ := bC.2.1 (wA σ v) o1 (by rw [k1]; exact o2)
        refine ⟨a, ha, ?_, ?_⟩
        · rw [sI_n (by decide), w5 v hv, x1]
        · rw [e16]; exact x2
      · show Mc'.2.1 36 (v * 4 + d) = _
        exact w6 (v * 4 + d) (by omega)
    have f8 : R8' na nn (sI Mc' 113 0 (bI true)) Mm1 := by
      refine R8_m (Mm := Mm) ?_ hmF
      have gc : ∀ c, c ≠ 35 → c ≠ 110 → c ≠ 111 → c ≠ 112 → c ≠ 113 → (sI Mc' 113 0 (bI true)).1 c = Mc.1 c := fun c x1 x2 x3 x4 x5 => by rw [sI_n x5]; exact c3.1 c x1 x2 x3 x4
      have no : ∀ {X : Prop}, zb (Mc.1 113 0) = true → X := fun z => absurd z q
      unfold R8'
      refine ⟨fun _ => ?_, fun z => ?_, fun z => ?_, fun z => ?_, fun z => ?_, fun z => ?_⟩
      · rw [hσ, e112, zb_b]; exact ⟨rfl, fun _ => hV⟩
      · rw [gc 115 (by decide) (by decide) (by decide) (by decide) (by decide)] at z
        exact no (h8.2.1 z).1
      · rw [gc 116 (by decide) (by decide) (by decide) (by decide) (by decide)] at z
        exact no (h8.2.1 (h8.2.2.1 z).1).1
      · rw [gc 117 (by decide) (by decide) (by decide) (by decide) (by decide)] at z
        exact no (h8.2.2.2.1 z).1
      · rw [gc 121 (by decide) (by decide) (by decide) (by decide) (by decide)] at z
        exact no (h8.2.1 (h8.2.2.2.2.1 z).2.1).1
      · rw [gc 123 (by decide) (by decide) (by decide) (by decide) (by decide)] at z
        exact no (h8.2.2.2.1 (h8.2.2.2.2.2 z).1).1
    refine ⟨sI Mc' 113 0 (bI true), Mm1, ?_, m1, RelN_fr hh hcF hmF f8, hcF, hmF, fun z => ⟨hVM z, by rw [e113]; decide, by rw [e112, zb_b]; exact z, hV⟩⟩
    rw [e112, zb_b]
end
theorem sim_visits : Sim_visits Rel := by
  intro Mc Mm ⟨ns, nn, na, nr, nk, h⟩
  obtain ⟨Mc1, Mm1, c1, m1, hR, hcF, hmF, hv⟩ := walks h
  unfold f_X11_visits f_X12_visits
  rw [c1, m1, bd_s, bd_s]
  cases e : wS (wkA (pgM nn Mm)) with
  | true => exact same_go hR _
  | false =>
    obtain ⟨v1, v2, v3, v4⟩ := hv e
    rw [bF, bF, v1.1, v4.1]
    exact same_go hR _
section
variable {na : Nat} {σ : Ws} {Mc Mm : Mem}
theorem aN_eq (h : VW na (Mc.1 16) σ (Mc.1 110 0) (Mc.1 35) (Mc.2.1 36)) (hna : na ≤ 12) {v : Nat} (hv : v < wN σ) : f_X0_actNode Mc (nI v) = some (nI (wA σ v)) := by
  obtain ⟨h1, h2, h3⟩ := h
  obtain ⟨⟨a, ha, e1, e2⟩, _⟩ := h3 v hv
  unfold f_X0_actNode
  rw [ck_nI (by omega) (by omega), nI_clamp (by omega), e1, ck_nI (by omega) (by omega), nI_clamp (by omega), e2]
theorem lt_eq (h : VW na (Mc.1 16) σ (Mc.1 110 0) (Mc.1 35) (Mc.2.1 36)) {v d : Nat} (hv : v < wN σ) (hd : d < 4) : f_X0_letter Mc (nI v) (nI d) = some (wL σ (v * 4 + d)) := by
  obtain ⟨h1, h2, h3⟩ := h
  unfold f_X0_letter
  rw [i_n4, pk_mul, nI_add, ck_nI (by omega) (by omega), nI_clamp (by omega), (h3 v hv).2 d hd]
end
theorem sim_has : Sim_has Rel := by
  intro Mc Mm y0 y1 y2 y3 y4 ⟨ns, nn, na, nr, nk, h⟩
  have h2 := h.2.1
  have hn : nn ≤ 40 := h2.2.2.1
  unfold f_X11_has f_X12_has
  rw [kn_eq h2.1 (by omega), no_eq h2.2.1 (by omega)]
  cases e : inN y0 nn with
  | false => exact same_go h _
  | true =>
    obtain ⟨j, hj, rfl⟩ := inN_t e
    obtain ⟨Mc1, Mm1, c1, m1, hR, hcF, hmF, hv⟩ := walks h
    rw [bq_s, bq_s, bT, bT, c1, m1, bd_s, bd_s]
    have g2 := hR.2.1
    have hna : na ≤ 12 := g2.2.2.2.2.2.1
    cases es : wS (wkA (pgM nn Mm)) with
    | true => exact same_go hR _
    | false =>
      obtain ⟨v1, v2, v3, v4⟩ := hv es
      generalize wkA (pgM nn Mm) = σ at *
      unfold f_X2_isAct
      rw [bF, bF, ck40 (by omega), ck40 (by omega), nI_clamp (by omega), g2.2.2.2.2.2.2.1.1]
      by_cases q3 : Mm1.1 6 j = 3
      · rw [if_pos q3, if_pos q3, bq_s, bT, i_n0]
        have lp : ∀ m v f f', v + m = wN σ → m < f → m < f' → ∃ r, f_X11_has_43 f (nI j) y1 y2 y3 y4 (nI v) Mc1 = some (r, Mc1) ∧ f_X12_has_39 f' (nI j) y1 y2 y3 y4 (nI v) Mm1 = some (r, Mm1) := by
          intro m
          induction m with
          | zero =>
            intro v f f' hvm hf hf'
            obtain ⟨f, rfl⟩ : ∃ g, f = g + 1 := ⟨f - 1, by omega⟩
            obtain ⟨f', rfl⟩ : ∃ g, f' = g + 1 := ⟨f' - 1, by omega⟩
            have := v4.2.1
            rw [f_X11_has_43, f_X12_has_39, v4.1, v1.1, if_pos (nI_le (by omega) (by omega)), if_pos (nI_le (by omega) (by omega))]
            exact ⟨_, rfl, rfl⟩
          | succ m ih =>
            intro v f f' hvm hf hf'
            obtain ⟨f, rfl⟩ : ∃ g, f = g + 1 := ⟨f - 1, by omega⟩
            obtain ⟨f', rfl⟩ : ∃ g, f' = g + 1 := ⟨f' - 1, by omega⟩
            have := v4.2.1
            obtain ⟨r, i1, i2⟩ := ih (v + 1) f f' (by omega) (by omega) (by omega)
            have l0 := lt_eq v4 (v := v) (d := 0) (by omega) (by omega)
            have l1 := lt_eq v4 (v := v) (d := 1) (by omega) (by omega)
            have l2 := lt_eq v4 (v := v) (d := 2) (by omega) (by omega)
            have l3 := lt_eq v4 (v := v) (d := 3) (by omega) (by omega)
            have l0 : f_X0_letter Mc1 (nI v) 0 = _ := l0
            have l1 : f_X0_letter Mc1 (nI v) 1 = _ := l1
            have l2 : f_X0_letter Mc1 (nI v) 2 = _ := l2
            have l3 : f_X0_letter Mc1 (nI v) 3 = _ := l3
            rw [f_X11_has_43, f_X12_has_39, v4.1, v1.1, if_neg (nI_ge (by omega) (by omega)), if_neg (nI_ge (by omega) (by omega)), aN_eq v4 hna (by omega), bq_s, ck_nI (by omega) (by omega), nI_clamp (by omega), v1.2.1 v (by omega), nI_1, i1, i2]
            unfold f_X0_isAt
            rw [l0, l1, l2, l3, i_n4, i_n1, i_n2, i_n3, pk_mul, nI_add, nI_add, nI_add, ck_nI (by omega) (by omega), ck_nI (by omega) (by omega), ck_nI (by omega) (by omega), ck_nI (by omega) (by omega), nI_clamp (by omega), nI_clamp (by omega), nI_clamp (by omega), nI_clamp (by omega), v1.2.2 _ (by omega), v1.2.2 _ (by omega), v1.2.2 _ (by omega), v1.2.2 _ (by omega), Nat.mul_comm 4 v, Nat.add_zero]
            simp only [bq_s]
            by_cases z : nI (wA σ v) = nI j
            · rw [if_pos z, if_pos z]
              by_cases z0 : wL σ (v * 4) = y1.toInt64
              · rw [if_pos z0, if_pos z0]
                by_cases z1 : wL σ (v * 4 + 1) = y2.toInt64
                · rw [if_pos z1, if_pos z1]
                  by_cases z2 : wL σ (v * 4 + 2) = y3.toInt64
                  · rw [if_pos z2, if_pos z2]
                    by_cases z3 : wL σ (v * 4 + 3) = y4.toInt64
                    · rw [if_pos z3, if_pos z3, bq_s, bT]; exact ⟨_, rfl, rfl⟩
                    · rw [if_neg z3, if_neg z3, bq_s, bF]; exact ⟨_, rfl, rfl⟩
                  · rw [if_neg z2, if_neg z2, bq_s, bF]; exact ⟨_, rfl, rfl⟩
                · rw [if_neg z1, if_neg z1, bq_s, bF]; exact ⟨_, rfl, rfl⟩
              · rw [if_neg z0, if_neg z0, bq_s, bF]; exact ⟨_, rfl, rfl⟩
            · rw [if_neg z, if_neg z]; exact ⟨_, rfl, rfl⟩
        have := v4.2.1
        obtain ⟨r, i1, i2⟩ := lp (wN σ) 0 100000 100000 (by omega) (by omega) (by omega)
        rw [i1, i2]
        exact same_go hR _
      · rw [if_neg q3, if_neg q3, bq_s, bF]; exact meet_go hR 3 (by decide) rfl
theorem sim_points : Sim_points Rel := by
  intro Mc Mm y0 ⟨ns, nn, na, nr, nk, h⟩
  have h2 := h.2.1
  have hn : nn ≤ 40 := h2.2.2.1
  unfold f_X11_points f_X12_points
  rw [kn_eq h2.1 (by omega), no_eq h2.2.1 (by omega)]
  cases e : inN y0 nn with
  | false => exact same_go h _
  | true =>
    obtain ⟨j, hj, rfl⟩ := inN_t e
    obtain ⟨Mc1, Mm1, c1, m1, hR, hcF, hmF, hv⟩ := walks h
    rw [bq_s, bq_s, bT, bT, c1, m1, bd_s, bd_s]
    have g2 := hR.2.1
    have hna : na ≤ 12 := g2.2.2.2.2.2.1
    cases es : wS (wkA (pgM nn Mm)) with
    | true => exact same_go hR _
    | false =>
      obtain ⟨v1, v2, v3, v4⟩ := hv es
      generalize wkA (pgM nn Mm) = σ at *
      unfold f_X2_isAct
      rw [bF, bF, ck40 (by omega), ck40 (by omega), nI_clamp (by omega), g2.2.2.2.2.2.2.1.1]
      by_cases q3 : Mm1.1 6 j = 3
      · rw [if_pos q3, if_pos q3, bq_s, bT]
        have lp : ∀ m v f f' x, v + m = wN σ → m < f → m < f' → ∃ r, f_X11_points_44 f (nI j) x (nI v) Mc1 = some (r, Mc1) ∧ f_X12_points_40 f' (nI j) x (nI v) Mm1 = some (r, Mm1) := by
          intro m
          induction m with
          | zero =>
            intro v f f' x hvm hf hf'
            obtain ⟨f, rfl⟩ : ∃ g, f = g + 1 := ⟨f - 1, by omega⟩
            obtain ⟨f', rfl⟩ : ∃ g, f' = g + 1 := ⟨f' - 1, by omega⟩
            have := v4.2.1
            rw [f_X11_points_44, f_X12_points_40, v4.1, v1.1, if_pos (nI_le (by omega) (by omega)), if_pos (nI_le (by omega) (by omega))]
            exact ⟨_, rfl, rfl⟩
          | succ m ih =>
            intro v f f' x hvm hf hf'
            obtain ⟨f, rfl⟩ : ∃ g, f = g + 1 := ⟨f - 1, by omega⟩
            obtain ⟨f', rfl⟩ : ∃ g, f' = g + 1 := ⟨f' - 1, by omega⟩
            have := v4.2.1
            rw [f_X11_points_44, f_X12_points_40, v4.1, v1.1, if_neg (nI_ge (by omega) (by omega)), if_neg (nI_ge (by omega) (by omega)), aN_eq v4 hna (by omega), bq_s, ck_nI (by omega) (by omega), nI_clamp (by omega), v1.2.1 v (by omega), nI_1, Int32.add_zero]
            by_cases z : nI (wA σ v) = nI j
            · rw [if_pos z, if_pos z]; exact ih (v + 1) f f' _ (by omega) (by omega) (by omega)
            · rw [if_neg z, if_neg z]; exact ih (v + 1) f f' _ (by omega) (by omega) (by omega)
        have := v4.2.1
        obtain ⟨r, i1, i2⟩ := lp (wN σ) 0 100000 100000 0 (by omega) (by omega) (by omega)
        have i1 : f_X11_points_44 100000 (nI j) 0 0 Mc1 = _ := i1
        have i2 : f_X12_points_40 100000 (nI j) 0 0 Mm1 = _ := i2
        rw [i1, i2]
        exact same_go hR _
      · rw [if_neg q3, if_neg q3, bq_s, bF]; exact meet_go hR 3 (by decide) rfl
theorem sim_node : Sim_node Rel := by
  intro Mc Mm y0 y1 ⟨ns, nn, na, nr, nk, h⟩
  have h2 := h.2.1
  have hn : nn ≤ 40 := h2.2.2.1
  obtain ⟨k1, k2, k3, k4, k5⟩ := h2.2.2.2.2.2.2.1
  unfold f_X11_node f_X12_node
  rw [kn_eq h2.1 (by omega), no_eq h2.2.1 (by omega), in_w 0 4, wi_n y1 (b := 4) (m := 4) (n := 5) rfl rfl (by decide)]
  have hg : ∀ x : Option Int32, (∃ r, x = some r) → ∃ r Mc1 Mm1, (x = some r ∧ Mc1 = Mc) ∧ (x = some r ∧ Mm1 = Mm) ∧ Rel Mc1 Mm1 := fun x ⟨r, hr⟩ => ⟨r, Mc, Mm, ⟨hr, rfl⟩, ⟨hr, rfl⟩, ns, nn, na, nr, nk, h⟩
  cases e : inN y0 nn with
  | false => exact hg _ ⟨_, rfl⟩
  | true =>
    obtain ⟨j, hj, rfl⟩ := inN_t e
    cases g : inN y1 5 with
    | false => exact hg _ ⟨_, rfl⟩
    | true =>
      unfold f_X2_tell
      simp only [bq_s, bT, ck40 (show j < 40 by omega), k1, k2, k3, k4, k5]
      by_cases q0 : y1 = 0
      · simp only [if_pos q0, bq_s]; exact hg _ ⟨_, rfl⟩
      · simp only [if_neg q0]
        by_cases q1 : y1 = 1
        · simp only [if_pos q1, bq_s]; exact hg _ ⟨_, rfl⟩
        · simp only [if_neg q1]
          by_cases q2 : y1 = 2
          · simp only [if_pos q2, bq_s]; exact hg _ ⟨_, rfl⟩
          · simp only [if_neg q2]
            by_cases q3 : y1 = 3
            · simp only [if_pos q3, bq_s]; exact hg _ ⟨_, rfl⟩
            · simp only [if_neg q3, bq_s]; exact hg _ ⟨_, rfl⟩
