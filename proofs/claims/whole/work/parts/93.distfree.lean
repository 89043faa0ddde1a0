/-! the pure half: distance, free -/
theorem sim_distance : Sim_distance Rel := by
  intro Mc Mm y0 y1 y2 mo ⟨ns, nn, na, nr, nk, h⟩
  have h2 := h.2.1
  have hn : nn ≤ 40 := h2.2.2.1
  unfold f_X11_distance f_X12_distance
  rw [kn_eq h2.1 (by omega), no_eq h2.2.1 (by omega), kn_eq h2.1 (by omega), no_eq h2.2.1 (by omega), in_w 0 3, wi_n y2 (b := 3) (m := 3) (n := 4) rfl rfl (by decide)]
  cases e0 : inN y0 nn with
  | false => exact same_go h _
  | true =>
    cases e1 : inN y1 nn with
    | false => exact same_go h _
    | true =>
      cases e2 : inN y2 4 with
      | false => exact same_go h _
      | true =>
        obtain ⟨j, hj, rfl⟩ := inN_t e0
        obtain ⟨i, hi, rfl⟩ := inN_t e1
        obtain ⟨d, hd, rfl⟩ := inN_t e2
        obtain ⟨Mc1, Mm1, c1, m1, hR, hcF, hmF, hv⟩ := walks h
        simp only [bq_s, bT, if_true, c1, m1, bd_s]
        have g2 := hR.2.1
        have hna : na ≤ 12 := g2.2.2.2.2.2.1
        have gT := g2.2.2.2.2.2.2.2.1
        have gA := g2.2.2.2.2.2.2.2.2.2.1
        cases es : wS (wkA (pgM nn Mm)) with
        | true => exact same_go hR _
        | false =>
          obtain ⟨v1, v2, v3, v4⟩ := hv es
          rw [← MFr_pg hmF nn] at v1 v4
          obtain ⟨k1, k2, k3, k4, k5⟩ := g2.2.2.2.2.2.2.1
          unfold f_X2_isAct
          rw [bF, bF, ck40 (by omega), ck40 (by omega), ck40 (by omega), ck40 (by omega), nI_clamp (by omega), nI_clamp (by omega), k1]
          by_cases q1 : Mm1.1 6 j = 3
          · rw [if_pos q1, if_pos q1, bq_s, bT]
            by_cases q2 : Mm1.1 6 i = 3
            · have tj := (gT j hj).2.2.1
              have ti := (gT i hi).2.2.1
              have lo : ∀ k, k < nn → f_X12_loopOf Mm1 (nI k) (nI d) = some (if d < cN_ (Mc1.1 11 k) then Mc1.1 14 (k * 4 + d) else -9) := fun k hk => lo_eq2 gT gA hn k1.symm k2.symm k3.symm hd hk
              rw [if_pos q2, if_pos q2, bq_s, bT, cmo_eq (by omega) (by omega) tj.1 ti.1 tj.2.1 ti.2.1, bq_s, lo j hj, lo i hi]
              simp only [bq_s]
              have ci := cm_iff gT gA hn hj hi hd
              generalize hL1 : (if d < cN_ (Mc1.1 11 j) then Mc1.1 14 (j * 4 + d) else -9) = L1 at *
              generalize hL2 : (if d < cN_ (Mc1.1 11 i) then Mc1.1 14 (i * 4 + d) else -9) = L2 at *
              have cl : comO (Mc1.1 11) (Mc1.1 14) j i 4 0 ≤ 4 := by have := @cm_le (Mc1.1 11) (Mc1.1 14) j i 4 0; omega
              by_cases qc : d < comO (Mc1.1 11) (Mc1.1 14) j i 4 0
              · obtain ⟨l1, l2⟩ := ci.mp qc
                rw [if_pos (nI_lt qc (by omega)), if_neg l1, if_pos l2]
                obtain ⟨Mc2, Mm2, x1, x2, x3, x4, x5, hN, h40, x6, x7, x8, x9⟩ := needsB hR v2 v3 v1
                obtain ⟨a, b, p1, p2, p3, p4, p5⟩ := pair_eq x3 hj hi (by rw [x8]; exact q1) (by rw [x8]; exact q2)
                obtain ⟨is, x, r1, r2⟩ := rd107 (j := j) (i := i) (d := d) (mo := mo) x6 hN h40 x7 hd (wN (sg nn Mm1)) 0 100000 false 0 (by omega) (by omega) (.inl ⟨rfl, fun v w z => by have := z.1; omega⟩)
                have r1 : f_X12_distance_107 100000 (nI j) (nI i) (nI d) mo false 0 0 Mm2 = _ := r1
                rw [x1, x2, bm_s, bm_s, p5, bq_s, r1]
                unfold f_X1_isAny
                have c46 : Mc2.1 46 (a * 12 + b) = nI (cnt3 (wN (sg nn Mm1)) (fun v w k => Mc2.1 16 a = nI (wA (sg nn Mm1) v) ∧ Mc2.1 16 b = nI (wA (sg nn Mm1) w) ∧ need (tcM nn Mm1) v w k)) := x9.2.2.1 a p1 b p2
                have bnd := cnt3_b hN (fun v w k => Mc2.1 16 a = nI (wA (sg nn Mm1) v) ∧ Mc2.1 16 b = nI (wA (sg nn Mm1) w) ∧ need (tcM nn Mm1) v w k)
                rw [ck_nI (by omega) (by omega), nI_clamp (by omega), c46]
                have ex : (∃ v w, PD (tcM nn Mm1) (sg nn Mm1) j i (wN (sg nn Mm1)) 0 v w) ↔ cnt3 (wN (sg nn Mm1)) (fun v w k => Mc2.1 16 a = nI (wA (sg nn Mm1) v) ∧ Mc2.1 16 b = nI (wA (sg nn Mm1) w) ∧ need (tcM nn Mm1) v w k) ≠ 0 := by
                  constructor
                  · intro ⟨v, w, z1, z2, z3, k, z4, z5⟩ y
                    exact cnt3_z y (show v < w by omega) (by omega) z4 ⟨by rw [p3]; exact z2, by rw [p4]; exact z3, z5⟩
                  · intro y
                    obtain ⟨v, w, k, y1, y2, y3, y4, y5, y6⟩ := cnt3_nz y
                    exact ⟨v, w, .inl ⟨y2, y1⟩, by rw [← p3]; exact y4, by rw [← p4]; exact y5, k, y3, y6⟩
                rcases r2 with ⟨z1, z2⟩ | ⟨z1, ⟨v, w, z2, z3⟩, z4⟩
                · have zz : cnt3 (wN (sg nn Mm1)) (fun v w k => Mc2.1 16 a = nI (wA (sg nn Mm1) v) ∧ Mc2.1 16 b = nI (wA (sg nn Mm1) w) ∧ need (tcM nn Mm1) v w k) = 0 := by
                    apply Classical.byContradiction
                    intro y
                    obtain ⟨v, w, y⟩ := ex.mpr y
                    exact z2 v w y
                  rw [z1, zz, if_pos (show nI 0 ≤ 0 by decide), bq_s, bF, bF]
                  exact same_go x3 _
                · have zz := ex.mp ⟨v, w, z2⟩
                  generalize cnt3 (wN (sg nn Mm1)) (fun v w k => Mc2.1 16 a = nI (wA (sg nn Mm1) v) ∧ Mc2.1 16 b = nI (wA (sg nn Mm1) w) ∧ need (tcM nn Mm1) v w k) = cn at *
                  obtain ⟨y1, y2, y3, k, y4, y5⟩ := z2
                  have hcm : d < comO (Mc2.1 11) (Mc2.1 14) (cN_ (Mc2.1 16 a)) (cN_ (Mc2.1 16 b)) 4 0 := by
                    have f11 : Mc2.1 11 = Mc1.1 11 := x4.1 11 (.inl (by omega))
                    have f14 : Mc2.1 14 = Mc1.1 14 := x4.1 14 (.inl (by omega))
                    rw [p3, p4, cN_n' (by omega), cN_n' (by omega), f11, f14]
                    exact qc
                  obtain ⟨n1, n2, ⟨w', v', k', n3, n4, n5, n6, n7, n8, n9⟩, ⟨w2, v2', k2', o3, o4, o5, o6, o7, o8, o9⟩⟩ := x9.2.2.2.2 a p1 b p2 d hcm w (show w < wN (sg nn Mm1) by omega) v (show v < w by omega) k y4 (by rw [p3]; exact y2) (by rw [p4]; exact y3) y5
                  have P1 : PD (tcM nn Mm1) (sg nn Mm1) j i (wN (sg nn Mm1)) 0 v' w' := ⟨.inl ⟨n3, n4⟩, by rw [← p3]; exact n6, by rw [← p4]; exact n7, k', n5, n8⟩
                  have P2 : PD (tcM nn Mm1) (sg nn Mm1) j i (wN (sg nn Mm1)) 0 v2' w2 := ⟨.inl ⟨o3, o4⟩, by rw [← p3]; exact o6, by rw [← p4]; exact o7, k2', o5, o8⟩
                  rw [z1, if_neg (show ¬ nI cn ≤ 0 from nI_nle (by omega) (by omega)), bq_s, bT, bT, i_n4, pk_mul, nI_add, ck_nI (by omega) (by omega), ck_nI (by omega) (by omega), nI_clamp (by omega)]
                  cases mo with
                  | true =>
                    rw [bT]
                    have e : Mc2.2.1 50 ((a * 12 + b) * 4 + d) = x := Int64.le_antisymm (by rw [o9]; exact (z4 v2' w2 P2).1 rfl) (by rw [z3]; exact n2)
                    rw [e]
                    exact ⟨_, _, _, rfl, rfl, ns, nn, na, nr, nk, fnd_rel x3 x⟩
                  | false =>
                    rw [bF]
                    have e : Mc2.2.1 49 ((a * 12 + b) * 4 + d) = x := Int64.le_antisymm (by rw [z3]; exact n1) (by rw [n9]; exact (z4 v' w' P1).2 rfl)
                    rw [e]
                    exact ⟨_, _, _, rfl, rfl, ns, nn, na, nr, nk, fnd_rel x3 x⟩
              · rw [if_neg (nI_nlt (by omega) (by omega))]
                by_cases l1 : L1 = -9
                · rw [if_pos l1]; exact same_go hR _
                · rw [if_neg l1, if_neg (fun l2 => qc (ci.mpr ⟨l1, l2⟩))]; exact same_go hR _
            · rw [if_neg q2, if_neg q2, bq_s, bF]; exact meet_go hR 3 (by decide) rfl
          · rw [if_neg q1, if_neg q1, bq_s, bF]; exact meet_go hR 3 (by decide) rfl
section
variable {ns nn na nr nk : Nat} {Mc Mm : Mem}
/-- the class: is a loop carrying -/
theorem cb12 (h : RelN ns nn na nr nk Mc Mm) {q d : Nat} (hq : q < nn) (hd : d < 4) {g : Nat → Nat → Nat} (hg : ∀ a, a < na → ∀ b, b < na → Mc.1 47 ((a * 12 + b) * 5 + d) = nI (g a b) ∧ g a b < 2 ^ 31) :
    ∀ r a f, a + r = na → r < f → ∃ x, f_X1_isCarriedBy_12 f (nI q) (nI d) (nI a) Mc = some x ∧ (x = true ↔ ∃ a' b', a ≤ a' ∧ a' < na ∧ b' < na ∧ g a' b' ≠ 0 ∧ stB Mc q (cN_ (Mc.1 16 a')) = true ∧ stB Mc q (cN_ (Mc.1 16 b')) = true) := by
  have h2 := h.2.1
  have hn : nn ≤ 40 := h2.2.2.1
  have hna : na ≤ 12 := h2.2.2.2.2.2.1
  have hC := h2.2.2.2.2.2.2.2.2.2.2.2
  have st : ∀ a, a < na → f_X2_stands Mc (nI a) (nI q) = some (stB Mc q (cN_ (Mc.1 16 a))) := fun a ha => by
    obtain ⟨k, k1, k2, _⟩ := hC.1 a ha
    have := st_eq (N0 := Mm) h2 (CB_r Mc) ha hq k1 k2
    rw [this, k2, cN_n' (by omega)]
  intro r
  induction r with
  | zero =>
    intro a f hr hf
    obtain ⟨f, rfl⟩ : ∃ z, f = z + 1 := ⟨f - 1, by omega⟩
    rw [f_X1_isCarriedBy_12, h2.2.2.2.1, if_pos (nI_le (by omega) (by omega))]
    exact ⟨false, rfl, fun z => absurd z (by decide), fun ⟨a', b', z1, z2, _⟩ => by omega⟩
  | succ r ih =>
    intro a f hr hf
    obtain ⟨f, rfl⟩ : ∃ z, f = z + 1 := ⟨f - 1, by omega⟩
    obtain ⟨x0, i1, i2⟩ := ih (a + 1) f (by omega) (by omega)
    have inner : ∀ r b f', b + r = na → r < f' → ∃ x, f_X1_isCarriedBy_26 (f_X1_isCarriedBy_12 f) f' (nI q) (nI d) (nI a) (nI b) Mc = some x ∧ (x = true ↔ x0 = true ∨ ∃ b', b ≤ b' ∧ b' < na ∧ g a b' ≠ 0 ∧ stB Mc q (cN_ (Mc.1 16 a)) = true ∧ stB Mc q (cN_ (Mc.1 16 b')) = true) := by
      intro r
      induction r with
      | zero =>
        intro b f' hb hf'
        obtain ⟨f', rfl⟩ : ∃ z, f' = z + 1 := ⟨f' - 1, by omega⟩
        rw [f_X1_isCarriedBy_26, h2.2.2.2.1, if_pos (nI_le (by omega) (by omega)), nI_1, i1]
        exact ⟨x0, rfl, fun z => .inl z, fun z => by
          rcases z with z | ⟨b', z1, z2, _⟩
          · exact z
          · omega⟩
      | succ r ih2 =>
        intro b f' hb hf'
        obtain ⟨f', rfl⟩ : ∃ z, f' = z + 1 := ⟨f' - 1, by omega⟩
        obtain ⟨x, j1, j2⟩ := ih2 (b + 1) f' (by omega) (by omega)
        obtain ⟨g1, g2⟩ := hg a (by omega) b (by omega)
        rw [f_X1_isCarriedBy_26, h2.2.2.2.1, if_neg (nI_ge (by omega) (by omega)), i_n12, i_n5, pk_mul, nI_add, pk_mul, nI_add, ck_nI (by omega) (by omega), nI_clamp (by omega), g1, nI_1, j1, st a (by omega), st b (by omega), bq_s, bq_s]
        have no : ¬ (g a b ≠ 0 ∧ stB Mc q (cN_ (Mc.1 16 a)) = true ∧ stB Mc q (cN_ (Mc.1 16 b)) = true) → ∃ x', some x = some x' ∧ (x' = true ↔ x0 = true ∨ ∃ b', b ≤ b' ∧ b' < na ∧ g a b' ≠ 0 ∧ stB Mc q (cN_ (Mc.1 16 a)) = true ∧ stB Mc q (cN_ (Mc.1 16 b')) = true) := by
          intro hno
          refine ⟨x, rfl, ?_⟩
          rw [j2]
          constructor
          · intro z
            rcases z with z | ⟨b', z1, z2⟩
            · exact .inl z
            · exact .inr ⟨b', by omega, z2⟩
          · intro z
            rcases z with z | ⟨b', z1, z2, z3⟩
            · exact .inl z
            · by_cases y : b' = b
              · rw [y] at z3; exact absurd z3 hno
              · exact .inr ⟨b', by omega, z2, z3⟩
        by_cases qg : g a b = 0
        · rw [qg, if_pos (show nI 0 ≤ 0 by decide)]; exact no (fun z => z.1 qg)
        · rw [if_neg (nI_nle (by omega) (by omega))]
          cases ea : stB Mc q (cN_ (Mc.1 16 a)) with
          | false => rw [bF, ← ea]; exact no (fun z => by rw [ea] at z; exact absurd z.2.1 (by decide))
          | true =>
            rw [bT]
            cases eb : stB Mc q (cN_ (Mc.1 16 b)) with
            | false => rw [bF]; rw [ea] at no; exact no (fun z => by rw [eb] at z; exact absurd z.2.2 (by decide))
            | true => rw [bT]; exact ⟨true, rfl, fun _ => .inr ⟨b, by omega, by omega, qg, rfl, eb⟩, fun _ => rfl⟩
    obtain ⟨x, j1, j2⟩ := inner na 0 100000 (by omega) (by omega)
    rw [f_X1_isCarriedBy_12, h2.2.2.2.1, if_neg (nI_ge (by omega) (by omega)), i_n0, j1]
    refine ⟨x, rfl, ?_⟩
    rw [j2, i2]
    constructor
    · intro z
      rcases z with ⟨a', b', z1, z2⟩ | ⟨b', z1, z2, z3, z4, z5⟩
      · exact ⟨a', b', by omega, z2⟩
      · exact ⟨a, b', by omega, by omega, z2, z3, z4, z5⟩
    · intro ⟨a', b', z1, z2, z3, z4, z5, z6⟩
      by_cases y : a' = a
      · rw [y] at z4 z5; exact .inr ⟨b', by omega, z3, z4, z5, z6⟩
      · exact .inl ⟨a', b', by omega, z2, z3, z4, z5, z6⟩
def FF (Mc : Mem) (T : Tc) (σ : Ws) (q d v w : Nat) : Prop := stB Mc q (wA σ v) = true ∧ stB Mc q (wA σ w) = true ∧ depO (Mc.1 11) (Mc.1 14) σ v w = d ∧ ∃ k, k < 3 ∧ need T v w k
theorem rf40 {M : Mem} {σ : Ws} {T : Tc} {q d : Nat} (hVM : VM σ M) (hN : wN σ ≤ 400) (hk : ∀ v, v < wN σ → wA σ v < 40) (hT : TM σ T M) (hq : q < 40) (hd : d < 4) (h8 : M.1 8 q = nI d) (hca : ∀ v w, v < wN σ → w < wN σ → f_X12_carrier M (nI v) (nI w) = some (cx (depO (Mc.1 11) (Mc.1 14) σ v w))) (hin : ∀ v, v < wN σ → f_X12_isIn M (nI (wA σ v)) (nI q) = some (stB Mc q (wA σ v))) :
    ∀ r w f, w + r = wN σ → r < f → ((f_X12_free_40 f (nI q) (nI w) M = some (0, M) ∧ ∃ v' w', v' < w' ∧ w' < wN σ ∧ FF Mc T σ q d v' w') ∨ (f_X12_free_40 f (nI q) (nI w) M = some (1, M) ∧ ∀ v' w', w ≤ w' → v' < w' → w' < wN σ → ¬ FF Mc T σ q d v' w')) := by
  intro r
  induction r with
  | zero =>
    intro w f hr hf
    obtain ⟨f, rfl⟩ : ∃ z, f = z + 1 := ⟨f - 1, by omega⟩
    rw [f_X12_free_40, hVM.1, if_pos (nI_le (by omega) (by omega))]
    exact .inr ⟨rfl, fun v' w' z1 z2 z3 => by omega⟩
  | succ r ih =>
    intro w f hr hf
    obtain ⟨f, rfl⟩ : ∃ z, f = z + 1 := ⟨f - 1, by omega⟩
    have inner : ∀ r v f', v + r = w → r < f' → ((f_X12_free_50 (f_X12_free_40 f) f' (nI q) (nI w) (nI v) M = some (0, M) ∧ ∃ v', v' < w ∧ FF Mc T σ q d v' w) ∨ (f_X12_free_50 (f_X12_free_40 f) f' (nI q) (nI w) (nI v) M = f_X12_free_40 f (nI q) (nI (w + 1)) M ∧ ∀ v', v ≤ v' → v' < w → ¬ FF Mc T σ q d v' w)) := by
      intro r
      induction r with
      | zero =>
        intro v f' hv hf'
        obtain ⟨f', rfl⟩ : ∃ z, f' = z + 1 := ⟨f' - 1, by omega⟩
        rw [f_X12_free_50, if_pos (nI_le (by omega) (by omega)), nI_1]
        exact .inr ⟨rfl, fun v' z1 z2 => by omega⟩
      | succ r ih2 =>
        intro v f' hv hf'
        obtain ⟨f', rfl⟩ : ∃ z, f' = z + 1 := ⟨f' - 1, by omega⟩
        have nx := ih2 (v + 1) f' (by omega) (by omega)
        have no : ¬ FF Mc T σ q d v w → ((f_X12_free_50 (f_X12_free_40 f) f' (nI q) (nI w) (nI (v + 1)) M = some (0, M) ∧ ∃ v', v' < w ∧ FF Mc T σ q d v' w) ∨ (f_X12_free_50 (f_X12_free_40 f) f' (nI q) (nI w) (nI (v + 1)) M = f_X12_free_40 f (nI q) (nI (w + 1)) M ∧ ∀ v', v ≤ v' → v' < w → ¬ FF Mc T σ q d v' w)) := by
          intro hno
          rcases nx with z | ⟨z1, z2⟩
          · exact .inl z
          · refine .inr ⟨z1, fun v' y1 y2 => ?_⟩
            by_cases y : v' = v
            · rw [y]; exact hno
            · exact z2 v' (by omega) y2
        rw [f_X12_free_50, if_neg (nI_ge (by omega) (by omega)), ck_nI (by omega) (by omega), nI_clamp (by omega), hVM.2.1 v (by omega), hin v (by omega), bq_s]
        unfold f_X12_free_102 f_X12_free_103
        simp only [bF, bT, nI_1]
        cases ea : stB Mc q (wA σ v) with
        | false => rw [bF]; exact no (fun z => by have := z.1; rw [ea] at this; exact absurd this (by decide))
        | true =>
          rw [bT, ck_nI (by omega) (by omega), nI_clamp (by omega), hVM.2.1 w (by omega), hin w (by omega), bq_s]
          cases eb : stB Mc q (wA σ w) with
          | false => rw [bF]; exact no (fun z => by have := z.2.1; rw [eb] at this; exact absurd this (by decide))
          | true =>
            rw [bT, hca v w (by omega) (by omega), bq_s, ck40 hq, nI_clamp (by omega), h8, ← cx_n hd]
            by_cases qd : depO (Mc.1 11) (Mc.1 14) σ v w = d
            · rw [if_pos (by rw [qd])]
              obtain ⟨b0, n0, m0⟩ := need_m hVM hN hk hT (v := v) (w := w) (k := 0) (by omega) (by omega) (by omega)
              obtain ⟨b1, n1, m1⟩ := need_m hVM hN hk hT (v := v) (w := w) (k := 1) (by omega) (by omega) (by omega)
              obtain ⟨b2, n2, m2⟩ := need_m hVM hN hk hT (v := v) (w := w) (k := 2) (by omega) (by omega) (by omega)
              have n0 : f_X12_isNeed M (nI v) (nI w) 0 = some b0 := n0
              have n1 : f_X12_isNeed M (nI v) (nI w) 1 = some b1 := n1
              have n2 : f_X12_isNeed M (nI v) (nI w) 2 = some b2 := n2
              rw [n0, n1, n2]
              simp only [bq_s]
              cases b0 with
              | true => rw [bT]; exact .inl ⟨rfl, v, by omega, ea, eb, qd, 0, by omega, m0.mp rfl⟩
              | false =>
                rw [bF]
                cases b1 with
                | true => rw [bT]; exact .inl ⟨rfl, v, by omega, ea, eb, qd, 1, by omega, m1.mp rfl⟩
                | false =>
                  rw [bF]
                  cases b2 with
                  | true => rw [bT]; exact .inl ⟨rfl, v, by omega, ea, eb, qd, 2, by omega, m2.mp rfl⟩
                  | false =>
                    rw [bF]
                    refine no (fun ⟨_, _, _, k, k1, k2⟩ => ?_)
                    rcases (show k = 0 ∨ k = 1 ∨ k = 2 by omega) with z | z | z
                    · rw [z] at k2; exact absurd (m0.mpr k2) (by decide)
                    · rw [z] at k2; exact absurd (m1.mpr k2) (by decide)
                    · rw [z] at k2; exact absurd (m2.mpr k2) (by decide)
            · rw [if_neg (fun z => qd ((cx_inj (dep_l v w) (by omega)).mp z))]
              exact no (fun z => qd z.2.2.1)
    rw [f_X12_free_40, hVM.1, if_neg (nI_ge (by omega) (by omega)), i_n0]
    rcases inner w 0 100000 (by omega) (by omega) with ⟨z1, v', z2, z3⟩ | ⟨z1, z2⟩
    · exact .inl ⟨z1, v', w, z2, by omega, z3⟩
    · rw [z1]
      rcases ih (w + 1) f (by omega) (by omega) with y | ⟨y1, y2⟩
      · exact .inl y
      · refine .inr ⟨y1, fun v' w' u1 u2 u3 => ?_⟩
        by_cases u : w' = w
        · rw [u] at u2 ⊢; exact z2 v' (by omega) u2
        · exact y2 v' w' (by omega) u2 u3
end
theorem sim_free : Sim_free Rel := by
  intro Mc Mm y0 ⟨ns, nn, na, nr, nk, h⟩
  have h2 := h.2.1
  have hn : nn ≤ 40 := h2.2.2.1
  unfold f_X11_free f_X12_free
  rw [kn_eq h2.1 (by omega), no_eq h2.2.1 (by omega)]
  cases e0 : inN y0 nn with
  | false => exact same_go h _
  | true =>
    obtain ⟨q, hq, rfl⟩ := inN_t e0
    obtain ⟨Mc1, Mm1, c1, m1, hR, hcF, hmF, hv⟩ := walks h
    simp only [bq_s, bT, if_true, c1, m1, bd_s]
    have g2 := hR.2.1
    have hna : na ≤ 12 := g2.2.2.2.2.2.1
    cases es : wS (wkA (pgM nn Mm)) with
    | true => exact same_go hR _
    | false =>
      obtain ⟨v1, v2, v3, v4⟩ := hv es
      rw [← MFr_pg hmF nn] at v1 v4
      obtain ⟨k1, k2, k3, k4, k5⟩ := g2.2.2.2.2.2.2.1
      have lq : ∀ x : Bool, (x = true ↔ Lq (Mm1.1 6) q) → f_X2_isLoop Mc1 (nI q) = some x ∧ f_X12_isLoop Mm1 (nI q) = some x := by
        intro x hx
        unfold f_X2_isLoop f_X12_isLoop
        simp only [ck40 (show q < 40 by omega), nI_clamp (show q < 2 ^ 31 by omega), k1]
        have : (if Mm1.1 6 q = 0 then some true else if Mm1.1 6 q = 1 then some true else some false) = some x := by
          cases x with
          | true =>
            rcases hx.mp rfl with z | z
            · rw [if_pos z]
            · by_cases y : Mm1.1 6 q = 0
              · rw [if_pos y]
              · rw [if_neg y, if_pos z]
          | false => rw [if_neg (fun z => absurd (hx.mpr (.inl z)) (by decide)), if_neg (fun z => absurd (hx.mpr (.inr z)) (by decide))]
        exact ⟨this, this⟩
      rw [bF, bF]
      rcases Classical.em (Lq (Mm1.1 6) q) with ql | ql
      · obtain ⟨l1, l2⟩ := lq true ⟨fun _ => ql, fun _ => rfl⟩
        rw [l1, l2, bq_s, bq_s, bT, bT]
        obtain ⟨Mc2, Mm2, x1, x2, x3, x4, x5, hN, h40, x6, x7, x8, x9⟩ := needsB hR v2 v3 v1
        have f2 := x3.2.1
        obtain ⟨j1, j2, j3, j4, j5⟩ := f2.2.2.2.2.2.2.1
        have fT := f2.2.2.2.2.2.2.2.1
        have fA := f2.2.2.2.2.2.2.2.2.2.1
        have fC := f2.2.2.2.2.2.2.2.2.2.2.2
        have ql2 : Lq (Mc2.1 9) q := by rw [j1, x8]; exact ql
        have tq := (fT q hq).2.2.1
        obtain ⟨d, hd⟩ : ∃ d, d = cN_ (Mc2.1 11 q) := ⟨_, rfl⟩
        have hd4 : d < 4 := by rw [hd]; exact tq.2.2 ql2
        have e11 : Mc2.1 11 q = nI d := by rw [hd]; exact tq.1
        have e8 : sg nn Mm2 = sg nn Mm1 := by unfold sg pgM; rw [x8]
        have hca := car_m x3 (by rw [e8]; exact x6) (by rw [e8]; exact hN)
        rw [e8] at hca
        have hwk : ∀ v, v < wN (sg nn Mm1) → wA (sg nn Mm1) v < nn := fun v hv => ((wkA_ok (P := pgM nn Mm1)).2 v hv).1
        have hin : ∀ v, v < wN (sg nn Mm1) → f_X12_isIn Mm2 (nI (wA (sg nn Mm1) v)) (nI q) = some (stB Mc2 q (wA (sg nn Mm1) v)) := fun v hv => by
          have := hwk v hv
          unfold f_X12_isIn
          rw [ck40 (by omega), nI_clamp (by omega), ← j2, isIn_eq fT fA hn j2.symm hq ql2 _ 100000 this (by omega)]
          rfl
        have gg : ∀ a, a < na → ∀ b, b < na → Mc2.1 47 ((a * 12 + b) * 5 + d) = nI (cnt3 (wN (sg nn Mm1)) (fun v w k => Mc2.1 16 a = nI (wA (sg nn Mm1) v) ∧ Mc2.1 16 b = nI (wA (sg nn Mm1) w) ∧ need (tcM nn Mm1) v w k ∧ depO (Mc2.1 11) (Mc2.1 14) (sg nn Mm1) v w = d)) ∧ cnt3 (wN (sg nn Mm1)) (fun v w k => Mc2.1 16 a = nI (wA (sg nn Mm1) v) ∧ Mc2.1 16 b = nI (wA (sg nn Mm1) w) ∧ need (tcM nn Mm1) v w k ∧ depO (Mc2.1 11) (Mc2.1 14) (sg nn Mm1) v w = d) < 2 ^ 31 := fun a ha b hb => ⟨x9.2.2.2.1 a ha b hb d (by omega), by
          have := cnt3_b hN (fun v w k => Mc2.1 16 a = nI (wA (sg nn Mm1) v) ∧ Mc2.1 16 b = nI (wA (sg nn Mm1) w) ∧ need (tcM nn Mm1) v w k ∧ depO (Mc2.1 11) (Mc2.1 14) (sg nn Mm1) v w = d)
          omega⟩
        obtain ⟨x, p1, p2⟩ := cb12 x3 hq hd4 gg na 0 100000 (by omega) (by omega)
        have iff : x = true ↔ ∃ v w, v < w ∧ w < wN (sg nn Mm1) ∧ FF Mc2 (tcM nn Mm1) (sg nn Mm1) q d v w := by
          rw [p2]
          constructor
          · intro ⟨a, b, _, ha, hb, z1, z2, z3⟩
            obtain ⟨v, w, k, y1, y2, y3, y4, y5, y6, y7⟩ := cnt3_nz z1
            have := hwk v (by omega)
            have := hwk w y2
            rw [y4, cN_n' (by omega)] at z2
            rw [y5, cN_n' (by omega)] at z3
            exact ⟨v, w, y1, y2, z2, z3, y7, k, y3, y6⟩
          · intro ⟨v, w, y1, y2, z1, z2, z3, k, z4, z5⟩
            obtain ⟨⟨a, ha, _, a2⟩, _⟩ := x5.2.2 v (Nat.lt_trans y1 y2)
            obtain ⟨⟨b, hb, _, b2⟩, _⟩ := x5.2.2 w y2
            have := hwk v (by omega)
            have := hwk w y2
            refine ⟨a, b, by omega, ha, hb, fun y => cnt3_z y y1 y2 z4 ⟨a2, b2, z5, z3⟩, ?_, ?_⟩
            · rw [a2, cN_n' (by omega)]; exact z1
            · rw [b2, cN_n' (by omega)]; exact z2
        unfold f_X1_isCarriedBy
        have p1 : f_X1_isCarriedBy_12 100000 (nI q) (nI d) 0 Mc2 = some x := p1
        rw [x1, x2, bm_s, bm_s, ck40 (by omega), nI_clamp (by omega), e11, p1, bq_s]
        have rr := rf40 (Mc := Mc2) (q := q) (d := d) x6 hN h40 x7 (by omega) hd4 (by rw [← j3]; exact e11) hca hin (wN (sg nn Mm1)) 0 100000 (by omega) (by omega)
        have rr : (f_X12_free_40 100000 (nI q) 0 Mm2 = some (0, Mm2) ∧ ∃ v' w', v' < w' ∧ w' < wN (sg nn Mm1) ∧ FF Mc2 (tcM nn Mm1) (sg nn Mm1) q d v' w') ∨ (f_X12_free_40 100000 (nI q) 0 Mm2 = some (1, Mm2) ∧ ∀ v' w', 0 ≤ w' → v' < w' → w' < wN (sg nn Mm1) → ¬ FF Mc2 (tcM nn Mm1) (sg nn Mm1) q d v' w') := rr
        rcases rr with ⟨r1, r2⟩ | ⟨r1, r2⟩
        · rw [r1, iff.mpr r2, bT]; exact same_go x3 _
        · have : x = false := by
            cases x with
            | false => rfl
            | true =>
              obtain ⟨v, w, z1, z2, z3⟩ := iff.mp rfl
              exact absurd z3 (r2 v w (by omega) z1 z2)
          rw [r1, this, bF]; exact same_go x3 _
      · obtain ⟨l1, l2⟩ := lq false ⟨fun z => absurd z (by decide), fun z => absurd z ql⟩
        rw [l1, l2, bq_s, bq_s, bF, bF]; exact meet_go hR 3 (by decide) rfl
