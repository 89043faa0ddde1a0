/-! the pure half: run -/
section
variable {ns nn na nr nk : Nat} {Mc Mm : Mem}
def R6' (Mc Mm : Mem) : Prop := R6 (Mc.2.1 101 0) (Mm.2.1 105 0) (Mc.1 102 0) (Mm.1 100 0) (Mc.1 103 0) (Mc.1 104 0) (Mc.1 67) (Mm.1 1) (Mm.1 40) (Mc.2.1 68)
theorem RelN_6 {Mc' Mm' : Mem} (h : RelN ns nn na nr nk Mc Mm) (hc : ∀ c, c ≠ 103 → c ≠ 104 → Mc'.1 c = Mc.1 c) (hl : ∀ c, c ≠ 68 → Mc'.2.1 c = Mc.2.1 c) (hd : Mc'.2.2 = Mc.2.2) (hm : ∀ c, c ≠ 40 → Mm'.1 c = Mm.1 c) (hm2 : Mm'.2 = Mm.2) (h6' : R6' Mc' Mm') : RelN ns nn na nr nk Mc' Mm' := by
  obtain ⟨h1, h2, h3, h4, h5, h6, h7, h8⟩ := h
  have ep : pgM nn Mm' = pgM nn Mm := by
    unfold pgM
    rw [hm 2 (by decide), hm 4 (by decide), hm 6 (by decide), hm 7 (by decide), hm 8 (by decide), hm 9 (by decide), hm 10 (by decide)]
  refine ⟨?_, ?_, ?_, ?_, ?_, h6', ?_, ?_⟩
  · rw [hc 105 (by decide) (by decide), hc 2 (by decide) (by decide), hc 3 (by decide) (by decide), hc 4 (by decide) (by decide), hm 101 (by decide), hm 2 (by decide), hm 3 (by decide), hm 4 (by decide)]; exact h1
  · rw [hc 106 (by decide) (by decide), hc 107 (by decide) (by decide), hc 6 (by decide) (by decide), hc 7 (by decide) (by decide), hc 8 (by decide) (by decide), hc 9 (by decide) (by decide), hc 10 (by decide) (by decide), hc 11 (by decide) (by decide), hc 12 (by decide) (by decide), hc 13 (by decide) (by decide), hc 14 (by decide) (by decide), hc 15 (by decide) (by decide), hc 16 (by decide) (by decide), hc 17 (by decide) (by decide), hm 102 (by decide), hm 103 (by decide), hm 6 (by decide), hm 7 (by decide), hm 8 (by decide), hm 9 (by decide), hm 10 (by decide)]; exact h2
  · rw [hc 16 (by decide) (by decide), hc 18 (by decide) (by decide), hc 19 (by decide) (by decide), hc 20 (by decide) (by decide), hm 11 (by decide), hm 12 (by decide), hm 13 (by decide)]; exact h3
  · rw [hc 22 (by decide) (by decide), hc 23 (by decide) (by decide), hc 24 (by decide) (by decide), hm 14 (by decide), hm 15 (by decide), hm 16 (by decide), hm 17 (by decide)]; exact h4
  · rw [hc 100 (by decide) (by decide), hm 104 (by decide), hm 19 (by decide), hm 20 (by decide), hm 21 (by decide), hd, hm2]; exact h5
  · rw [hc 16 (by decide) (by decide), hc 11 (by decide) (by decide), hc 28 (by decide) (by decide), hc 29 (by decide) (by decide), hc 108 (by decide) (by decide), hc 109 (by decide) (by decide), hm 30 (by decide), hm 31 (by decide), hm 109 (by decide), hm 32 (by decide), hm 33 (by decide), hd]; exact h7
  · rw [ep, hc 16 (by decide) (by decide), hc 11 (by decide) (by decide), hc 14 (by decide) (by decide), hc 110 (by decide) (by decide), hc 112 (by decide) (by decide), hc 113 (by decide) (by decide), hc 114 (by decide) (by decide), hc 115 (by decide) (by decide), hc 116 (by decide) (by decide), hc 117 (by decide) (by decide), hc 118 (by decide) (by decide), hc 119 (by decide) (by decide), hc 120 (by decide) (by decide), hc 121 (by decide) (by decide), hc 122 (by decide) (by decide), hc 123 (by decide) (by decide), hc 35 (by decide) (by decide), hc 41 (by decide) (by decide), hc 44 (by decide) (by decide), hc 45 (by decide) (by decide), hc 46 (by decide) (by decide), hc 47 (by decide) (by decide), hc 57 (by decide) (by decide), hc 59 (by decide) (by decide), hc 62 (by decide) (by decide), hl 36 (by decide), hl 39 (by decide), hl 40 (by decide), hl 49 (by decide), hl 50 (by decide), hm 11 (by decide), hm 12 (by decide), hm 13 (by decide), hm 30 (by decide), hm 31 (by decide)]; exact h8
theorem pg40 (nn : Nat) (M : Mem) (x : Int32) : pgM nn (sI M 40 0 x) = pgM nn M := by
  unfold pgM
  rw [sI_n (show (2 : Nat) ≠ 40 by decide), sI_n (show (4 : Nat) ≠ 40 by decide), sI_n (show (6 : Nat) ≠ 40 by decide), sI_n (show (7 : Nat) ≠ 40 by decide), sI_n (show (8 : Nat) ≠ 40 by decide), sI_n (show (9 : Nat) ≠ 40 by decide), sI_n (show (10 : Nat) ≠ 40 by decide)]
theorem tc40 (nn : Nat) (M : Mem) (x : Int32) : tcM nn (sI M 40 0 x) = tcM nn M := by
  unfold tcM
  rw [pg40, sI_n (show (2 : Nat) ≠ 40 by decide), sI_n (show (4 : Nat) ≠ 40 by decide), sI_n (show (11 : Nat) ≠ 40 by decide), sI_n (show (12 : Nat) ≠ 40 by decide), sI_n (show (13 : Nat) ≠ 40 by decide)]
theorem KV_of (h : RelN ns nn na nr nk Mc Mm) (h113 : zb (Mc.1 113 0) = true) (h112 : zb (Mc.1 112 0) = false) (h115 : zb (Mc.1 115 0) = true) {v : Nat} (hv : v < wN (sg nn Mm)) : KV (sg nn Mm) (tcM nn Mm) nr v Mc Mm := by
  have hV := VWc_of h h113 h112
  have hN : wN (sg nn Mm) ≤ 400 := hV.2.1
  have k1 : wA (sg nn Mm) v < 40 := wk40 h v hv
  have hns : ns ≤ 80 := h.1.2.2.2.1
  have hnr : nr ≤ 8 := h.2.2.2.2.1.2.2.1
  obtain ⟨⟨a, ha, a1, a2⟩, a3⟩ := hV.2.2 v hv
  have ea : cN_ (Mc.1 16 a) = wA (sg nn Mm) v := by rw [a2]; exact cN_n' (by omega)
  obtain ⟨sp, u1, u2, u3, u4⟩ := (h.2.2.2.2.2.2.2.2.1 h115).2.2
  intro k hk
  have g := h.2.2.1.1 a ha k hk
  rw [ea] at g
  have eT : (tcM nn Mm).1 v k = Mm.1 11 (3 * wA (sg nn Mm) v + k) := if_pos ⟨hv, hk⟩
  refine ⟨aA_eq hN (tcC_of h hV) hv hk, eT.symm, ?_⟩
  rcases g.2 with q | ⟨⟨r, r1, r2⟩, ⟨s, s1, s2⟩, ⟨p, p1, p2⟩, s3, p3⟩
  · exact .inl (by rw [eT, ← g.1]; exact q)
  · have n9 : (tcM nn Mm).1 v k ≠ -9 := by rw [eT, ← g.1, r2]; exact nN9 (by omega)
    have n9' : Mm.1 11 (3 * wA (sg nn Mm) v + k) ≠ -9 := by rw [← eT]; exact n9
    obtain ⟨_, c39, c40⟩ := (u3 v hv k hk).2 n9
    refine .inr ⟨r, r1, by rw [eT, ← g.1]; exact r2, c39, c40, s, p, by omega, by omega, by rw [← s3]; exact s2, by rw [← p3]; exact p2, ?_, ?_⟩
    · show _ = (if v < wN (sg nn Mm) ∧ k < 3 ∧ Mm.1 11 (3 * wA (sg nn Mm) v + k) ≠ -9 then val (Mm.1 2) (Mm.1 4) (fun d => wL (sg nn Mm) (v * 4 + d)) (cN_ (Mm.1 12 (3 * wA (sg nn Mm) v + k))) else 0)
      rw [if_pos ⟨hv, hk, n9'⟩, ← s3, s2, cN_n' (by omega)]
    · show _ = (if v < wN (sg nn Mm) ∧ k < 3 ∧ Mm.1 11 (3 * wA (sg nn Mm) v + k) ≠ -9 then val (Mm.1 2) (Mm.1 4) (fun d => wL (sg nn Mm) (v * 4 + d)) (cN_ (Mm.1 13 (3 * wA (sg nn Mm) v + k))) else 0)
      rw [if_pos ⟨hv, hk, n9'⟩, ← p3, p2, cN_n' (by omega)]
theorem KV_40 {σ : Ws} {T : Tc} {v : Nat} {x : Int32} (h : KV σ T nr v Mc (sI Mm 40 0 x)) : KV σ T nr v Mc Mm := by
  intro k hk
  have := h k hk
  rw [sI_n (show (11 : Nat) ≠ 40 by decide), sI_n (show (12 : Nat) ≠ 40 by decide), sI_n (show (13 : Nat) ≠ 40 by decide), sI_n (show (2 : Nat) ≠ 40 by decide), sI_n (show (4 : Nat) ≠ 40 by decide)] at this
  exact this
/-- the end of a run that meets something -/
theorem endA {σ : Ws} {v a : Nat} (hV : VW na (Mc.1 16) σ (Mc.1 110 0) (Mc.1 35) (Mc.2.1 36)) (hv : v < wN σ) (ha : f_X0_actNode Mc (nI v) = some (nI a)) :
    ∃ Mc', f_X11_endAt Mc (nI v) = some Mc' ∧ (∀ c, c ≠ 104 → Mc'.1 c = Mc.1 c) ∧ Mc'.1 104 0 = nI a ∧ (∀ c, c ≠ 68 → Mc'.2.1 c = Mc.2.1 c) ∧ Mc'.2.2 = Mc.2.2 ∧ ∀ k, k < 4 → Mc'.2.1 68 k = wL σ (v * 4 + k) := by
  unfold f_X11_endAt
  rw [ha, bq_s]
  have lp : ∀ r d f M, d + r = 4 → r < f → OnL 68 (sI Mc 104 0 (nI a)) M → (∀ e, e < d → M.2.1 68 e = wL σ (v * 4 + e)) → ∃ M', f_X11_endAt_14 f (nI v) (nI d) M = some M' ∧ OnL 68 (sI Mc 104 0 (nI a)) M' ∧ ∀ e, e < 4 → M'.2.1 68 e = wL σ (v * 4 + e) := by
    intro r
    induction r with
    | zero =>
      intro d f M hd hf hO h1
      obtain ⟨f, rfl⟩ : ∃ z, f = z + 1 := ⟨f - 1, by omega⟩
      rw [f_X11_endAt_14, i_n4, if_pos (nI_le (by omega) (by omega))]
      exact ⟨M, rfl, hO, fun e he => h1 e (by omega)⟩
    | succ r ih =>
      intro d f M hd hf hO h1
      obtain ⟨f, rfl⟩ : ∃ z, f = z + 1 := ⟨f - 1, by omega⟩
      have hVM : VW na (M.1 16) σ (M.1 110 0) (M.1 35) (M.2.1 36) := by
        rw [hO.1, hO.2.1 36 (by decide), sI_n (show (16 : Nat) ≠ 104 by decide), sI_n (show (110 : Nat) ≠ 104 by decide), sI_n (show (35 : Nat) ≠ 104 by decide)]; exact hV
      rw [f_X11_endAt_14, i_n4, if_neg (nI_ge (by omega) (by omega)), lt_eq hVM hv (by omega), bq_s, ck_nI (by omega) (by omega), nI_clamp (by omega), nI_1]
      refine ih (d + 1) f _ (by omega) (by omega) (OnL_s hO) (fun e he => ?_)
      by_cases z : e = d
      · rw [z, sL_e, pk_uLs]
      · rw [sL_e, pk_uLn z]; exact h1 e (by omega)
  obtain ⟨M', b1, b2, b3⟩ := lp 4 0 100000 _ (by omega) (by omega) (OnL_r 68 _) (fun e he => absurd he (by omega))
  have b1 : f_X11_endAt_14 100000 (nI v) 0 (sI Mc 104 0 (nI a)) = some M' := b1
  exact ⟨M', b1, fun c z => by rw [b2.1, sI_n z], by rw [b2.1, sI_e, pk_us], b2.2.1, b2.2.2, b3⟩
theorem endM {σ : Ws} {v : Nat} {c : Int32} (hVM : VM σ Mm) (hN : wN σ ≤ 400) (hv : v < wN σ) :
    ∃ Mm', f_X12_run_99 100000 (nI v) c 0 Mm = bd (f_X12_meets Mm' c) (fun r M => some (r, M)) ∧ (∀ c, c ≠ 40 → Mm'.1 c = Mm.1 c) ∧ Mm'.2 = Mm.2 ∧ Mm'.1 40 0 = Mm.1 40 0 ∧ Mm'.1 40 1 = Mm.1 40 1 ∧ ∀ k, k < 4 → Mm'.1 40 (2 + k) = (100000 + wL σ (v * 4 + k)).toInt32 := by
  have lp : ∀ r d f M, d + r = 4 → r < f → On 40 Mm M → M.1 40 0 = Mm.1 40 0 → M.1 40 1 = Mm.1 40 1 → (∀ e, e < d → M.1 40 (2 + e) = (100000 + wL σ (v * 4 + e)).toInt32) → ∃ M', f_X12_run_99 f (nI v) c (nI d) M = bd (f_X12_meets M' c) (fun r M => some (r, M)) ∧ On 40 Mm M' ∧ M'.1 40 0 = Mm.1 40 0 ∧ M'.1 40 1 = Mm.1 40 1 ∧ ∀ e, e < 4 → M'.1 40 (2 + e) = (100000 + wL σ (v * 4 + e)).toInt32 := by
    intro r
    induction r with
    | zero =>
      intro d f M hd hf hO g0 g1 h1
      obtain ⟨f, rfl⟩ : ∃ z, f = z + 1 := ⟨f - 1, by omega⟩
      rw [f_X12_run_99, i_n4, if_pos (nI_le (by omega) (by omega))]
      exact ⟨M, rfl, hO, g0, g1, fun e he => h1 e (by omega)⟩
    | succ r ih =>
      intro d f M hd hf hO g0 g1 h1
      obtain ⟨f, rfl⟩ : ∃ z, f = z + 1 := ⟨f - 1, by omega⟩
      have e24 : M.2.1 24 (4 * v + d) = wL σ (v * 4 + d) := by rw [hO.2, hVM.2.2 _ (by omega), Nat.mul_comm 4 v]
      rw [f_X12_run_99, i_n4, if_neg (nI_ge (by omega) (by omega)), i_n2, pk_mul, nI_add, nI_add, ck_nI (by omega) (by omega), ck_nI (by omega) (by omega), nI_clamp (by omega), nI_clamp (by omega), e24, nI_1]
      refine ih (d + 1) f _ (by omega) (by omega) (On_s hO) (by rw [sI_e, pk_un (by omega)]; exact g0) (by rw [sI_e, pk_un (by omega)]; exact g1) (fun e he => ?_)
      by_cases z : e = d
      · rw [z, sI_e, pk_us]
      · rw [sI_e, pk_un (by omega)]; exact h1 e (by omega)
  obtain ⟨M', b1, b2, b3, b4, b5⟩ := lp 4 0 100000 Mm (by omega) (by omega) (On_r 40 Mm) rfl rfl (fun e he => absurd he (by omega))
  have b1 : f_X12_run_99 100000 (nI v) c 0 Mm = _ := b1
  exact ⟨M', b1, b2.1, b2.2, b3, b4, b5⟩
theorem run_lp {σ : Ws} {T : Tc} {M0 : Mem} {fr : Bool} (eσ : sg nn M0 = σ) (eT : tcM nn M0 = T) (hN : wN σ ≤ 400) :
    ∀ r i f f' Mc Mm, i + r = wN σ → r < f → r < f' → (∀ c, c ≠ 40 → Mm.1 c = M0.1 c) → RelN ns nn na nr nk Mc (sI Mm 40 0 (nI i)) → Mc.1 104 0 = -9 → zb (Mc.1 113 0) = true → zb (Mc.1 112 0) = false → zb (Mc.1 115 0) = true → VM σ Mm → (fr = true → QW (wN σ) (ahd (M0.1 30) (M0.1 31) σ) (Mm.1 38) (Mm.1 39)) →
    ∃ (y : Int32) (Mc' Mm' : Mem), f_X11_run_32 f fr 0 (nI i) Mc = some (y, Mc') ∧ f_X12_run_42 f' fr (nI i) Mm = some (y, Mm') ∧ Rel Mc' Mm' := by
  intro r
  induction r with
  | zero =>
    intro i f f' Mc Mm hi hf hf' h0 hR h104 h113 h112 h115 hVM hQ
    obtain ⟨f, rfl⟩ : ∃ z, f = z + 1 := ⟨f - 1, by omega⟩
    obtain ⟨f', rfl⟩ : ∃ z, f' = z + 1 := ⟨f' - 1, by omega⟩
    have : i = wN σ := by omega
    subst this
    have es : sg nn (sI Mm 40 0 (nI (wN σ))) = σ := by
      unfold sg; rw [pg40, ← eσ]; unfold sg pgM; rw [h0 2 (by decide), h0 4 (by decide), h0 6 (by decide), h0 7 (by decide), h0 8 (by decide), h0 9 (by decide), h0 10 (by decide)]
    have hV := VWc_of hR h113 h112
    unfold VWc at hV
    rw [es] at hV
    have e103 : Mc.1 103 0 = nI (wN σ) := by
      have := hR.2.2.2.2.2.1.2.2.2.1
      rw [this, sI_e, pk_us]
    have e0 : (0 : Int32).toNatClampNeg = 0 := by decide
    rw [f_X11_run_32, f_X12_run_42, hV.1, hVM.1, if_pos (nI_le (by omega) (by omega)), if_pos (nI_le (by omega) (by omega))]
    unfold f_X11_run_91
    rw [if_pos rfl, e103, e0, sI_n (show (106 : Nat) ≠ 40 by decide), hVM.1, i_n0, ck_nI (by omega) (by omega)]
    exact same_go hR _
  | succ r ih =>
    intro i f f' Mc Mm hi hf hf' h0 hR h104 h113 h112 h115 hVM hQ
    obtain ⟨f, rfl⟩ : ∃ z, f = z + 2 := ⟨f - 2, by omega⟩
    obtain ⟨f', rfl⟩ : ∃ z, f' = z + 1 := ⟨f' - 1, by omega⟩
    have es : ∀ M : Mem, ∀ x, (∀ c, c ≠ 40 → M.1 c = M0.1 c) → sg nn (sI M 40 0 x) = σ := fun M x h0 => by
      unfold sg; rw [pg40, ← eσ]; unfold sg pgM; rw [h0 2 (by decide), h0 4 (by decide), h0 6 (by decide), h0 7 (by decide), h0 8 (by decide), h0 9 (by decide), h0 10 (by decide)]
    have et : ∀ M : Mem, ∀ x, (∀ c, c ≠ 40 → M.1 c = M0.1 c) → tcM nn (sI M 40 0 x) = T := fun M x h0 => by
      rw [tc40, ← eT]; unfold tcM pgM; rw [h0 2 (by decide), h0 4 (by decide), h0 6 (by decide), h0 7 (by decide), h0 8 (by decide), h0 9 (by decide), h0 10 (by decide), h0 11 (by decide), h0 12 (by decide), h0 13 (by decide)]
    have hV := VWc_of hR h113 h112
    unfold VWc at hV
    rw [es Mm _ h0] at hV
    have hna : na ≤ 12 := hR.2.1.2.2.2.2.2.1
    -- the visit that comes next
    have vis : ∃ v Mc1, v < wN σ ∧ f_X11_visitAt Mc (nI i) fr = some (nI v, Mc1) ∧ (f_X12_run_42 (f' + 1) fr (nI i) Mm = f_X12_run_64 (f_X12_run_42 f') fr (nI i) (nI v) Mm) ∧ RelN ns nn na nr nk Mc1 (sI Mm 40 0 (nI i)) ∧ Mc1.1 104 0 = -9 ∧ zb (Mc1.1 113 0) = true ∧ zb (Mc1.1 112 0) = false ∧ zb (Mc1.1 115 0) = true := by
      unfold f_X11_visitAt
      rw [f_X12_run_42, hVM.1, if_neg (nI_ge (by omega) (by omega))]
      cases fr with
      | false => exact ⟨i, Mc, by omega, rfl, rfl, hR, h104, h113, h112, h115⟩
      | true =>
        obtain ⟨Mc1, a1, a2, a3, a4, a5⟩ := arranges hR h113 h112
        have e := es Mm (nI i) h0
        unfold sg at e
        rw [e, sI_n (show (30 : Nat) ≠ 40 by decide), sI_n (show (31 : Nat) ≠ 40 by decide), h0 30 (by decide), h0 31 (by decide)] at a5
        have q := (QW_un hN (Lin_a _ _ _) a5 (hQ rfl)).1 i (by omega)
        rw [bT, bT, a1, bm_s, ck_nI (by omega) (by omega), ck_nI (by omega) (by omega), nI_clamp (by omega), ← q, (a5.1 i (by omega)).1]
        exact ⟨_, Mc1, (a5.1 i (by omega)).2.1, rfl, rfl, a2, by rw [a3.1 104 (by decide) (by decide) (by decide) (by decide)]; exact h104, by rw [a3.1 113 (by decide) (by decide) (by decide) (by decide)]; exact h113, by rw [a3.1 112 (by decide) (by decide) (by decide) (by decide)]; exact h112, by rw [a3.1 115 (by decide) (by decide) (by decide) (by decide)]; exact h115⟩
    obtain ⟨v, Mc1, hv, v1, v2, R1_, g104, g113, g112, g115⟩ := vis
    have hV1 := VWc_of R1_ g113 g112
    unfold VWc at hV1
    rw [es Mm _ h0] at hV1
    have hkv := KV_of R1_ g113 g112 g115 (v := v) (by rw [es Mm _ h0]; exact hv)
    rw [es Mm _ h0, et Mm _ h0] at hkv
    have ha : wA σ v < 40 := by have := wk40 R1_ v (by unfold sg at es; rw [es Mm _ h0]; exact hv); unfold sg at es; rw [es Mm _ h0] at this; exact this
    obtain ⟨c, Mc2, Mm2, p1, p2, p3, p4, p5, p6⟩ := visit2 R1_ (KV_40 hkv) (by omega) ha (aN_eq hV1 hna hv) (hVM.2.1 v hv) (fun d hd => hVM.2.2 _ (by omega))
    have h02 : ∀ c, c ≠ 40 → Mm2.1 c = M0.1 c := fun c z => by rw [p6.1]; exact h0 c z
    have hVM2 : VM σ Mm2 := ⟨by rw [p6.1]; exact hVM.1, fun v hv => by rw [p6.1]; exact hVM.2.1 v hv, fun j hj => by rw [p6.2 24 (by decide) (by decide) (by decide) (by decide)]; exact hVM.2.2 j hj⟩
    have hV2 : VW na (Mc2.1 16) σ (Mc2.1 110 0) (Mc2.1 35) (Mc2.2.1 36) := by rw [p5.1, p5.2]; exact hV1
    have e103 : Mc2.1 103 0 = nI i := by
      have := p4.2.2.2.2.2.1.2.2.2.1
      rw [this, sI_e, pk_us]
    have r6 := p4.2.2.2.2.2.1
    rw [f_X11_run_32, hV.1, if_neg (nI_ge (by omega) (by omega)), if_pos rfl, v1, bd_s, p2, bd_s, v2]
    unfold f_X12_run_64
    rw [p3, bd_s]
    by_cases q : c = 0
    · subst q
      rw [if_pos (show nI 0 = 0 from rfl), if_pos (show nI 0 ≤ 0 by decide), e103, nI_1]
      refine ih (i + 1) (f + 1) f' _ Mm2 (by omega) (by omega) (by omega) h02 (RelN_6 p4 (fun c x y => sI_n x) (fun c x => rfl) rfl (fun c x => by rw [sI_n x, sI_n x]) rfl ?_) (by rw [sI_n (show (104 : Nat) ≠ 103 by decide), p5.1]; exact g104) (by rw [sI_n (show (113 : Nat) ≠ 103 by decide), p5.1]; exact g113) (by rw [sI_n (show (112 : Nat) ≠ 103 by decide), p5.1]; exact g112) (by rw [sI_n (show (115 : Nat) ≠ 103 by decide), p5.1]; exact g115) hVM2 (fun z => by rw [p6.1]; exact hQ z)
      obtain ⟨s1, s2, s3, s4, s5, s6, s7⟩ := r6
      refine ⟨s1, by rw [sI_n (show (102 : Nat) ≠ 103 by decide), sI_n (show (100 : Nat) ≠ 40 by decide)]; rw [sI_n (show (100 : Nat) ≠ 40 by decide)] at s2; exact s2, by rw [sI_n (show (67 : Nat) ≠ 103 by decide), sI_n (show (1 : Nat) ≠ 40 by decide)]; rw [sI_n (show (1 : Nat) ≠ 40 by decide)] at s3; exact s3, by rw [sI_e, pk_us, sI_e, pk_us], ?_, fun z k hk => ?_, fun z k hk => ?_⟩
      · rw [sI_n (show (104 : Nat) ≠ 103 by decide), sI_e, pk_un (by decide)]; rw [sI_e, pk_un (by decide)] at s5; exact s5
      · rw [sI_n (show (104 : Nat) ≠ 103 by decide)] at z; have := s6 z k hk; rw [sI_e, pk_un (by omega)] at this ⊢; exact this
      · rw [sI_n (show (104 : Nat) ≠ 103 by decide)] at z; have := s7 z k hk; rw [sI_e, pk_un (by omega)] at this ⊢; exact this
    · obtain ⟨Mc3, b1, b2, b3, b4, b5, b6⟩ := endA hV2 hv (aN_eq hV2 hna hv)
      have e0 : (0 : Int32).toNatClampNeg = 0 := by decide
      have e1 : (1 : Int32).toNatClampNeg = 1 := by decide
      rw [if_neg (nI_ne0 (by omega) (by omega)), if_neg (nI_nle (by omega) (by omega)), b1, bm_s, e0, e1, i_n0, i_n1, ck_nI (by omega) (by omega), ck_nI (by omega) (by omega), ck_nI (by omega) (by omega), nI_clamp (by omega), sI_n (show (23 : Nat) ≠ 40 by decide), hVM2.2.1 v hv]
      obtain ⟨Mm3, d1, d2, d3, d4, d5, d6⟩ := endM (Mm := sI (sI Mm2 40 0 (nI i)) 40 1 (nI (wA σ v))) (σ := σ) (v := v) (c := nI c) ⟨by rw [sI_n (show (106 : Nat) ≠ 40 by decide), sI_n (show (106 : Nat) ≠ 40 by decide)]; exact hVM2.1, fun v hv => by rw [sI_n (show (23 : Nat) ≠ 40 by decide), sI_n (show (23 : Nat) ≠ 40 by decide)]; exact hVM2.2.1 v hv, hVM2.2.2⟩ hN hv
      have d1 : f_X12_run_99 100000 (nI v) (nI c) (nI 0) (sI (sI Mm2 40 0 (nI i)) 40 1 (nI (wA σ v))) = _ := d1
      rw [d1]
      have fin : f_X11_run_32 (f + 1) fr (nI c) (nI i + nI 1) Mc3 = bd (f_X11_meet Mc3 (nI c)) (fun r M => some (r, M)) := by
        rw [f_X11_run_32]
        unfold f_X11_run_91
        rw [if_neg (nI_ne0 (by omega) (by omega))]
        by_cases z : (Mc3.1 110 0) ≤ nI i + nI 1
        · rw [if_pos z]
        · rw [if_neg z, if_neg (nI_ne0 (by omega) (by omega))]
      rw [fin]
      have RR : RelN ns nn na nr nk Mc3 Mm3 := by
        refine RelN_6 p4 (fun c x y => b2 c y) b4 b5 (fun c x => by rw [d2 c x, sI_n x]) (by rw [d3]; rfl) ?_
        obtain ⟨s1, s2, s3, s4, s5, s6, s7⟩ := r6
        refine ⟨?_, ?_, ?_, ?_, ?_, fun z => ?_, fun _ k hk => ?_⟩
        · rw [b4 101 (by decide), d3]; exact s1
        · rw [b2 102 (by decide), d2 100 (by decide), sI_n (show (100 : Nat) ≠ 40 by decide)]; exact s2
        · rw [b2 67 (by decide), d2 1 (by decide), sI_n (show (1 : Nat) ≠ 40 by decide)]; exact s3
        · rw [b2 103 (by decide), e103, d4, sI_e, pk_un (by decide), sI_e, pk_us]
        · rw [b3, d5, sI_e, pk_us]
        · rw [b3] at z; exact absurd z (nN9 (by omega))
        · rw [d6 k hk, b6 k hk]
      exact meet_go RR c (by omega) rfl
end
theorem r20 {fr : Bool} {M0 : Mem} : ∀ r k f M, 1 ≤ k → k + r = 6 → r < f → On 40 M0 M → M.1 40 0 = M0.1 40 0 → (∀ j, 1 ≤ j → j < k → M.1 40 j = -9) → ∃ M', f_X12_run_20 f fr (nI k) M = f_X12_run_42 100000 fr 0 M' ∧ On 40 M0 M' ∧ M'.1 40 0 = M0.1 40 0 ∧ ∀ j, 1 ≤ j → j < 6 → M'.1 40 j = -9 := by
  intro r
  induction r with
  | zero =>
    intro k f M k1 hk hf hO h0 h1
    obtain ⟨f, rfl⟩ : ∃ z, f = z + 1 := ⟨f - 1, by omega⟩
    rw [f_X12_run_20, i_n6, if_pos (nI_le (by omega) (by omega))]
    exact ⟨M, rfl, hO, h0, fun j a b => h1 j a (by omega)⟩
  | succ r ih =>
    intro k f M k1 hk hf hO h0 h1
    obtain ⟨f, rfl⟩ : ∃ z, f = z + 1 := ⟨f - 1, by omega⟩
    rw [f_X12_run_20, i_n6, if_neg (nI_ge (by omega) (by omega)), ck_nI (by omega) (by omega), nI_clamp (by omega), nI_1]
    refine ih (k + 1) f _ (by omega) (by omega) (by omega) (On_s hO) (by rw [sI_e, pk_un (by omega)]; exact h0) (fun j a b => ?_)
    by_cases z : j = k
    · rw [z, sI_e, pk_us]
    · rw [sI_e, pk_un z]; exact h1 j a (by omega)
theorem sim_run : Sim_run Rel := by
  intro Mc Mm fr ⟨ns, nn, na, nr, nk, h⟩
  unfold f_X11_run f_X12_run
  obtain ⟨Mc1, Mm1, c1, m1, hR, hcF, hmF, hv⟩ := walks h
  rw [c1, m1, bd_s, bd_s]
  cases es : wS (wkA (pgM nn Mm)) with
  | true => exact same_go hR _
  | false =>
    obtain ⟨v1, v2, v3, v4⟩ := hv es
    rw [← MFr_pg hmF nn] at v1 v4
    obtain ⟨Mc2, b1, b2, b3, b4, b5⟩ := touches hR v2 v3
    have e3 : zb (Mc2.1 113 0) = true := by rw [b3.1 113 (by decide) (by decide) (by decide) (by decide)]; exact v2
    have e2 : zb (Mc2.1 112 0) = false := by rw [b3.1 112 (by decide) (by decide) (by decide) (by decide)]; exact v3
    have hV := VWc_of b2 e3 e2
    -- the reference lays the order first
    have fin : ∀ Mm2, RelN ns nn na nr nk Mc2 Mm2 → MFr Mm1 Mm2 → VM (sg nn Mm1) Mm2 → (fr = true → QW (wN (sg nn Mm1)) (ahM nn Mm1) (Mm2.1 38) (Mm2.1 39)) → ∃ (r : Int32) (Mc' Mm' : Mem), f_X11_run_32 100000 fr 0 0 (sI (sI Mc2 103 0 0) 104 0 (-9)) = some (r, Mc') ∧ f_X12_run_20 100000 fr 1 Mm2 = some (r, Mm') ∧ Rel Mc' Mm' := by
      intro Mm2 R2_ hF hVM hQ
      obtain ⟨M3, d1, d2, d3, d4⟩ := r20 (fr := fr) (M0 := Mm2) 5 1 100000 Mm2 (by omega) (by omega) (by omega) (On_r 40 Mm2) rfl (fun j a b => absurd b (by omega))
      have d1 : f_X12_run_20 100000 fr 1 Mm2 = f_X12_run_42 100000 fr 0 M3 := d1
      rw [d1]
      have hN : wN (sg nn Mm1) ≤ 400 := hV.2.1
      have es : sg nn M3 = sg nn Mm1 := by
        have : pgM nn M3 = pgM nn Mm2 := by unfold pgM; rw [d2.1 2 (by decide), d2.1 4 (by decide), d2.1 6 (by decide), d2.1 7 (by decide), d2.1 8 (by decide), d2.1 9 (by decide), d2.1 10 (by decide)]
        unfold sg; rw [this, MFr_pg hF]
      have RR : RelN ns nn na nr nk (sI (sI Mc2 103 0 0) 104 0 (-9)) (sI M3 40 0 (nI 0)) := by
        refine RelN_6 R2_ (fun c x y => by rw [sI_n y, sI_n x]) (fun _ _ => rfl) rfl (fun c x => by rw [sI_n x, d2.1 c x]) d2.2 ?_
        obtain ⟨s1, s2, s3, s4, s5, s6, s7⟩ := R2_.2.2.2.2.2.1
        refine ⟨?_, ?_, ?_, ?_, ?_, fun z k hk => ?_, fun z => ?_⟩
        · show Mc2.2.1 101 0 = M3.2.1 105 0
          rw [d2.2]; exact s1
        · rw [sI_n (show (102 : Nat) ≠ 104 by decide), sI_n (show (102 : Nat) ≠ 103 by decide), sI_n (show (100 : Nat) ≠ 40 by decide), d2.1 100 (by decide)]; exact s2
        · rw [sI_n (show (67 : Nat) ≠ 104 by decide), sI_n (show (67 : Nat) ≠ 103 by decide), sI_n (show (1 : Nat) ≠ 40 by decide), d2.1 1 (by decide)]; exact s3
        · rw [sI_n (show (103 : Nat) ≠ 104 by decide), sI_e, pk_us, sI_e, pk_us]; rfl
        · rw [sI_e, pk_us, sI_e, pk_un (by decide), d4 1 (by omega) (by omega)]
        · rw [sI_e, pk_un (by omega), d4 (2 + k) (by omega) (by omega)]
        · rw [sI_e, pk_us] at z; exact absurd rfl z
      have go := run_lp (M0 := M3) (fr := fr) es rfl hN (wN (sg nn Mm1)) 0 100000 100000 (sI (sI Mc2 103 0 0) 104 0 (-9)) M3 (by omega) (by omega) (by omega) (fun _ _ => rfl) RR (by rw [sI_e, pk_us]) (by rw [sI_n (show (113 : Nat) ≠ 104 by decide), sI_n (show (113 : Nat) ≠ 103 by decide)]; exact e3) (by rw [sI_n (show (112 : Nat) ≠ 104 by decide), sI_n (show (112 : Nat) ≠ 103 by decide)]; exact e2) (by rw [sI_n (show (115 : Nat) ≠ 104 by decide), sI_n (show (115 : Nat) ≠ 103 by decide)]; exact b4) ⟨by rw [d2.1 106 (by decide)]; exact hVM.1, fun v hv => by rw [d2.1 23 (by decide)]; exact hVM.2.1 v hv, fun j hj => by rw [d2.2]; exact hVM.2.2 j hj⟩ (fun z => by
        rw [d2.1 38 (by decide), d2.1 39 (by decide), d2.1 30 (by decide), d2.1 31 (by decide), hF.1 30 (by unfold mRl; omega), hF.1 31 (by unfold mRl; omega)]; exact hQ z)
      exact go
    rw [bF, bF, b1, bm_s]
    cases fr with
    | false =>
      rw [bF]
      exact fin Mm1 b2 (MFr_r Mm1) v1 (fun z => absurd z (by decide))
    | true =>
      obtain ⟨Mm2, w1, w2, w3, w4, w5, w6, w7, w8⟩ := lays b2 v1 hV
      rw [bT, w1, bm_s]
      exact fin Mm2 w2 w3 w4 (fun _ => w5)
