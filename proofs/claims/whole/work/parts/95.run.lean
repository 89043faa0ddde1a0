/-! the pure half: runs -/
theorem dm1 (x : Int64) : x / (-1) = -x := by
  apply Int64.toInt_inj.1
  have e : (-1 : Int64).toInt = -1 := by decide
  rw [Int64.toInt_div, e, Int.tdiv_neg, Int.tdiv_one, Int64.toInt_neg]
def PC (M M' : Mem) : Prop := M'.1 = M.1 ∧ M'.2.1 = M.2.1
def PM (M M' : Mem) : Prop := M'.1 = M.1 ∧ ∀ c, c ≠ 5 → c ≠ 22 → c ≠ 113 → c ≠ 114 → M'.2.1 c = M.2.1 c
theorem PM_t {M M1 M2 : Mem} (h : PM M M1) (g : PM M1 M2) : PM M M2 := ⟨g.1.trans h.1, fun c x y z w => (g.2 c x y z w).trans (h.2 c x y z w)⟩
theorem la40 (M : Mem) (x a : Int32) (b c : Int64) : f_X12_lacks (sI M 40 0 x) a b c = f_X12_lacks M a b c := by
  unfold f_X12_lacks
  rw [sI_n (show (20 : Nat) ≠ 40 by decide), sI_n (show (21 : Nat) ≠ 40 by decide)]
/-- what both know of the touches of visit v -/
def KV (σ : Ws) (T : Tc) (nr v : Nat) (Mc Mm : Mem) : Prop := ∀ k, k < 3 → f_X9_arrayAt Mc (nI v) (nI k) = some (T.1 v k) ∧ Mm.1 11 (3 * wA σ v + k) = T.1 v k ∧
  (T.1 v k = -9 ∨ ∃ r, r < nr ∧ T.1 v k = nI r ∧ Mc.2.1 39 (v * 3 + k) = T.2.1 v k ∧ Mc.2.1 40 (v * 3 + k) = T.2.2 v k ∧ ∃ s p, s < 80 ∧ p < 80 ∧ Mm.1 12 (3 * wA σ v + k) = nI s ∧ Mm.1 13 (3 * wA σ v + k) = nI p ∧ val (Mm.1 2) (Mm.1 4) (fun d => wL σ (v * 4 + d)) s = T.2.1 v k ∧ val (Mm.1 2) (Mm.1 4) (fun d => wL σ (v * 4 + d)) p = T.2.2 v k)
theorem KV_p {σ : Ws} {T : Tc} {nr v : Nat} {Mc Mm Mc' Mm' : Mem} (h : KV σ T nr v Mc Mm) (hc : PC Mc Mc') (hm : Mm'.1 = Mm.1) : KV σ T nr v Mc' Mm' := by
  intro k hk
  have := h k hk
  unfold f_X9_arrayAt at *
  rw [hc.1, hc.2, hm]
  exact this
section
variable {ns nn na nr nk : Nat} {Mc Mm : Mem} {x : Int32} {σ : Ws} {T : Tc} {v : Nat}
theorem acc_k (h : RelN ns nn na nr nk Mc (sI Mm 40 0 x)) (hK : KV σ T nr v Mc Mm) (hv : v < 400) (ha : wA σ v < 40) (h23 : Mm.1 23 v = nI (wA σ v)) (hl : ∀ d, d < 4 → Mm.2.1 5 d = wL σ (v * 4 + d)) {k : Nat} (hk : k < 3) :
    (f_X11_lackAt Mc (nI v) (nI k) = some 0 ∧ f_X11_loadAt Mc (nI v) (nI k) = some 0 ∧ f_X12_hasAim Mm (nI v) (nI k) = some false ∧ T.1 v k = -9) ∨
    (∃ r c, r < nr ∧ T.1 v k = nI r ∧ c < 3 ∧ f_X11_lackAt Mc (nI v) (nI k) = some (nI c) ∧ f_X12_hasAim Mm (nI v) (nI k) = some true ∧ f_X12_meetsAt Mm (nI (wA σ v)) (nI k) = some (nI c) ∧ (c = 0 → ∃ i j L, (Mc.2.1 39 (v * 3 + k)).toInt32 = nI i ∧ (Mc.2.1 40 (v * 3 + k)).toInt32 = nI j ∧ i < Mc.2.2.2.2.2 (r + 2) ∧ Mc.2.2.2.2.2 (r + 2) ≤ 20 ∧ j < L ∧ L ≤ 20 ∧ Mc.2.2.2.1 (4 * r + 1) i = nI L ∧ Mm.1 21 (20 * r + i) = nI L ∧ (∀ j, j < L → Mc.2.2.2.2.1 r (i * 20 + j) = Mm.2.1 22 (400 * r + 20 * i + j)) ∧ f_X11_loadAt Mc (nI v) (nI k) = some (Mm.2.1 22 (400 * r + 20 * i + j)) ∧ f_X12_placeAt Mm (nI (wA σ v)) (nI k) = some (nI (400 * r + 20 * i + j)))) := by
  have h5 := h.2.2.2.2.1
  have hn : nr ≤ 8 := h5.2.2.1
  obtain ⟨a1, a2, a3⟩ := hK k hk
  have hA : f_X12_hasAim Mm (nI v) (nI k) = some (if T.1 v k = -9 then false else true) := by
    unfold f_X12_hasAim
    rw [ck_nI (by omega) (by omega), nI_clamp (by omega), h23, i_n3, pk_mul, nI_add, ck_nI (by omega) (by omega), nI_clamp (by omega), a2]
    by_cases z : T.1 v k = -9
    · rw [if_pos z, if_pos z]
    · rw [if_neg z, if_neg z]
  unfold f_X11_lackAt f_X11_loadAt
  rw [a1, bq_s, bq_s, rk_eq h, bq_s, bq_s]
  rcases a3 with q | ⟨r, r1, r2, r3, r4, s, p, s1, p1, s2, p2, s3, p3⟩
  · rw [q, inN_9, if_neg (show ¬ false = true by decide), oq_n, oq_n]
    exact .inl ⟨rfl, rfl, by rw [hA, if_pos q], rfl⟩
  · obtain ⟨c, hc, l1, l2, l3⟩ := lack_eq h r1 (T.2.1 v k) (T.2.2 v k)
    have n9 : T.1 v k ≠ -9 := by rw [r2]; exact nN9 (by omega)
    rw [la40] at l2
    have vs : f_X12_valueOf Mm (nI s) = some (T.2.1 v k) := by rw [vo_eq s1, ← s3]; exact congrArg some (val_h hl)
    have vp : f_X12_valueOf Mm (nI p) = some (T.2.2 v k) := by rw [vo_eq p1, ← p3]; exact congrArg some (val_h hl)
    rw [r2, inN_nI r1 (by omega), if_pos rfl, cN_n' (by omega), oq_s, oq_s, i_n3, pk_mul, nI_add, ck_nI (by omega) (by omega), ck_nI (by omega) (by omega), ck_nI (by omega) (by omega), ck_nI (by omega) (by omega), nI_clamp (by omega), h5.2.2.2.1, cN_n r1, cN_n r1, r3, r4, l1, bq_s]
    refine .inr ⟨r, c, r1, rfl, hc, rfl, by rw [hA, if_neg n9], ?_, fun q => ?_⟩
    · unfold f_X12_meetsAt
      rw [i_n3, pk_mul, nI_add, ck_nI (by omega) (by omega), ck_nI (by omega) (by omega), nI_clamp (by omega), s2, vs, bq_s, ck_nI (by omega) (by omega), p2, vp, bq_s, a2, r2, l2, bq_s]
    · obtain ⟨i, j, L, e1, e2, hi, hN, hj, hL, d2, d3, d4⟩ := l3 q
      rw [sI_n (show (21 : Nat) ≠ 40 by decide)] at d3
      have d4 : ∀ j, j < L → Mc.2.2.2.2.1 r (i * 20 + j) = Mm.2.1 22 (400 * r + 20 * i + j) := d4
      refine ⟨i, j, L, by rw [e1, lN_i], by rw [e2, lN_i], hi, hN, hj, hL, d2, d3, d4, ?_, ?_⟩
      · unfold f_X5_load
        rw [e1, e2, lN_i, lN_i, i_n20, pk_mul, nI_add, ck_nI (by omega) (by omega), nI_clamp (by omega), bq_s, d4 j hj]
      · unfold f_X12_placeAt f_X12_at
        rw [i_n3, pk_mul, nI_add, ck_nI (by omega) (by omega), ck_nI (by omega) (by omega), nI_clamp (by omega), s2, vs, bq_s, ck_nI (by omega) (by omega), p2, vp, bq_s, a2, r2, bq_s, e1, e2, lN_i, lN_i, i_n20, show (400 : Int32) = nI 400 from rfl, pk_mul, pk_mul, nI_add, nI_add]
/-- one that reads -/
theorem read_k {f : Nat} (h : RelN ns nn na nr nk Mc (sI Mm 40 0 x)) (hK : KV σ T nr v Mc Mm) (hv : v < 400) (ha : wA σ v < 40) (h23 : Mm.1 23 v = nI (wA σ v)) (hl : ∀ d, d < 4 → Mm.2.1 5 d = wL σ (v * 4 + d)) {k : Nat} (hk : k = 1 ∨ k = 2) (z1 : k = 1 → Mm.2.1 113 0 = 0) (z2 : k = 2 → Mm.2.1 114 0 = 0) :
    (∃ c, 1 ≤ c ∧ c < 3 ∧ f_X11_lackAt Mc (nI v) (nI k) = some (nI c) ∧ f_X12_doVisit_24 (f + 1) (nI v) (nI (wA σ v)) (nI k) Mm = some (nI c, Mm)) ∨
    (∃ y M', f_X11_lackAt Mc (nI v) (nI k) = some 0 ∧ f_X11_loadAt Mc (nI v) (nI k) = some y ∧ f_X12_doVisit_24 (f + 1) (nI v) (nI (wA σ v)) (nI k) Mm = f_X12_doVisit_24 f (nI v) (nI (wA σ v)) (nI (k + 1)) M' ∧ M'.1 = Mm.1 ∧ (∀ c, c ≠ 113 → c ≠ 114 → M'.2.1 c = Mm.2.1 c) ∧ M'.2.2 = Mm.2.2 ∧ M'.2.1 113 0 = (if k = 1 then y else Mm.2.1 113 0) ∧ M'.2.1 114 0 = (if k = 2 then y else Mm.2.1 114 0)) := by
  have hn : nr ≤ 8 := h.2.2.2.2.1.2.2.1
  rw [f_X12_doVisit_24, i_n3, if_neg (nI_ge (by omega) (by omega))]
  rcases acc_k h hK hv ha h23 hl (k := k) (by omega) with ⟨q1, q2, q3, q4⟩ | ⟨r, c, r1, r2, r3, r4, r5, r6, r7⟩
  · rw [q1, q2, q3, bq_s, bF, nI_1]
    refine .inr ⟨0, Mm, rfl, rfl, rfl, rfl, fun _ _ _ => rfl, rfl, ?_, ?_⟩
    · by_cases z : k = 1
      · rw [if_pos z]; exact z1 z
      · rw [if_neg z]
    · by_cases z : k = 2
      · rw [if_pos z]; exact z2 z
      · rw [if_neg z]
  · rw [r5, bq_s, bT, r6, bq_s]
    by_cases q : c = 0
    · obtain ⟨i, j, L, e1, e2, hi, hN, hj, hL, d2, d3, d4, ld, pl⟩ := r7 q
      rw [r4, ld, pl, q, if_pos (show nI 0 ≤ 0 by decide), bq_s, ck_nI (by omega) (by omega), nI_clamp (by omega)]
      unfold f_X12_doVisit_82
      refine .inr ⟨_, if k = 1 then sL (sL Mm 113 0 (Mm.2.1 22 (400 * r + 20 * i + j))) 114 0 (Mm.2.1 114 0) else sL (sL Mm 113 0 (Mm.2.1 113 0)) 114 0 (Mm.2.1 22 (400 * r + 20 * i + j)), rfl, rfl, ?_, ?_, ?_, ?_, ?_, ?_⟩
      · rcases hk with z | z
        · subst z
          rw [if_pos (show nI 1 = 1 from rfl), if_neg (show ¬ nI 1 = 2 by decide), if_pos rfl, nI_1, sL_n (by decide)]
        · subst z
          rw [if_neg (show ¬ nI 2 = 1 by decide), if_pos (show nI 2 = 2 from rfl), if_neg (by decide), nI_1]
      · rcases hk with z | z
        · subst z; rw [if_pos rfl]; rfl
        · subst z; rw [if_neg (by decide)]; rfl
      · intro c x y
        rcases hk with z | z
        · subst z; rw [if_pos rfl, sL_n y, sL_n x]
        · subst z; rw [if_neg (by decide), sL_n y, sL_n x]
      · rcases hk with z | z
        · subst z; rw [if_pos rfl]; rfl
        · subst z; rw [if_neg (by decide)]; rfl
      · rcases hk with z | z
        · subst z; rw [if_pos rfl, if_pos rfl, sL_n (by decide), sL_e, pk_uLs]
        · subst z; rw [if_neg (by decide), if_neg (by decide), sL_n (by decide), sL_e, pk_uLs]
      · rcases hk with z | z
        · subst z; rw [if_pos rfl, if_neg (by decide), sL_e, pk_uLs]
        · subst z; rw [if_neg (by decide), if_pos rfl, sL_e, pk_uLs]
    · rw [if_neg (nI_nle (by omega) (by omega))]
      exact .inl ⟨c, by omega, r3, r4, rfl⟩
theorem wo_eq {a : Nat} {y1 y2 : Int64} (ha : a < 40) (e12 : Mc.1 12 = Mm.1 9) (e13 : Mc.1 13 = Mm.1 10) (z1 : Mm.2.1 113 0 = y1) (z2 : Mm.2.1 114 0 = y2) (hz : Mm.1 9 a = 3 → y2 ≠ 0) : ∃ u, f_X11_outcome Mc (nI a) y1 y2 = some u ∧ f_X12_workedOut Mm (Mm.1 9 a) (Mm.1 10 a) = some u := by
  unfold f_X11_outcome f_X12_workedOut
  rw [ck40 ha, ck40 ha, nI_clamp (by omega), e12, e13, z1, z2]
  by_cases q0 : Mm.1 9 a = 0
  · rw [if_pos q0, if_pos q0]; exact ⟨_, rfl, rfl⟩
  · rw [if_neg q0, if_neg q0]
    by_cases q1 : Mm.1 9 a = 1
    · rw [if_pos q1, if_pos q1]; exact ⟨_, rfl, rfl⟩
    · rw [if_neg q1, if_neg q1]
      by_cases q2 : Mm.1 9 a = 2
      · rw [if_pos q2, if_pos q2]; exact ⟨_, rfl, rfl⟩
      · rw [if_neg q2, if_neg q2]
        by_cases q3 : Mm.1 9 a = 3
        · rw [if_pos q3, if_pos q3, if_neg (hz q3), nzL_ok (hz q3)]
          by_cases m1 : y2 = -1
          · rw [if_pos m1, m1, dm1]; exact ⟨_, rfl, rfl⟩
          · rw [if_neg m1]; exact ⟨_, rfl, rfl⟩
        · rw [if_neg q3, if_neg q3]
          by_cases q4 : Mm.1 9 a = 4
          · rw [if_pos q4]; exact ⟨_, rfl, rfl⟩
          · rw [if_neg q4]; exact ⟨_, rfl, rfl⟩
/-- one visit on both sides -/
theorem visit2 (h : RelN ns nn na nr nk Mc (sI Mm 40 0 x)) (hK : KV σ T nr v Mc Mm) (hv : v < 400) (ha : wA σ v < 40) (hV : f_X0_actNode Mc (nI v) = some (nI (wA σ v))) (h23 : Mm.1 23 v = nI (wA σ v)) (h24 : ∀ d, d < 4 → Mm.2.1 24 (v * 4 + d) = wL σ (v * 4 + d)) :
    ∃ c Mc' Mm', c < 5 ∧ f_X11_perform Mc (nI v) = some (nI c, Mc') ∧ f_X12_doVisit Mm (nI v) = some (nI c, Mm') ∧ RelN ns nn na nr nk Mc' (sI Mm' 40 0 x) ∧ PC Mc Mc' ∧ PM Mm Mm' := by
  obtain ⟨k1, k2, k3, k4, k5⟩ := h.2.1.2.2.2.2.2.2.1
  have k4 : Mc.1 12 = Mm.1 9 := k4
  have k5 : Mc.1 13 = Mm.1 10 := k5
  have hn : nr ≤ 8 := h.2.2.2.2.1.2.2.1
  have pr : PC Mc Mc := ⟨rfl, rfl⟩
  -- scratch cells alone
  have scr : ∀ {M : Mem}, M.1 = Mm.1 → (∀ c, c ≠ 5 → c ≠ 113 → c ≠ 114 → M.2.1 c = Mm.2.1 c) → RelN ns nn na nr nk Mc (sI M 40 0 x) ∧ PM Mm M := by
    intro M e1 e2
    have hF : MFr (sI Mm 40 0 x) (sI M 40 0 x) := ⟨fun c z => by unfold sI; rw [e1], e2 22 (by decide) (by decide) (by decide), e2 105 (by decide) (by decide) (by decide)⟩
    exact ⟨RelN_fr h (CFr_r Mc) hF (R8_m h.2.2.2.2.2.2.2 hF), e1, fun c x _ y z => e2 c x y z⟩
  obtain ⟨M1, a1, a2, a3⟩ := lo_eq (M0 := Mm) (v := v) hv 4 0 100000 Mm (by omega) (by omega) (OnL_r 5 Mm) (fun e he => absurd he (by omega))
  have a1 : f_X12_lettersOf_2 100000 (nI v) 0 Mm = some M1 := a1
  generalize hM2 : sL (sL M1 113 0 0) 114 0 0 = M2
  have m2a : M2.1 = Mm.1 := by rw [← hM2]; exact a2.1
  have m2b : ∀ c, c ≠ 5 → c ≠ 113 → c ≠ 114 → M2.2.1 c = Mm.2.1 c := fun c x y z => by rw [← hM2, sL_n z, sL_n y]; exact a2.2.1 c x
  have m2l : ∀ d, d < 4 → M2.2.1 5 d = wL σ (v * 4 + d) := fun d hd => by rw [← hM2, sL_n (by decide), sL_n (by decide), a3 d hd]; exact h24 d hd
  have m23 : M2.2.1 113 0 = 0 := by rw [← hM2, sL_n (by decide), sL_e, pk_uLs]
  have m24 : M2.2.1 114 0 = 0 := by rw [← hM2, sL_e, pk_uLs]
  obtain ⟨R2_, P2_⟩ := scr m2a m2b
  unfold f_X12_doVisit f_X12_lettersOf f_X11_perform
  rw [a1, bm_s, ck_nI (by omega) (by omega), nI_clamp (by omega), hM2, show M1.1 23 v = nI (wA σ v) by rw [a2.1]; exact h23]
  rcases read_k (f := 99999) R2_ (KV_p hK pr m2a) hv ha (by rw [m2a]; exact h23) m2l (k := 1) (.inl rfl) (fun _ => m23) (fun z => absurd z (by decide)) with ⟨c, c1, c2, c3, c4⟩ | ⟨y1, M3, c3, c4, c5, c6, c7, c8, c9, c10⟩
  · have c3 : f_X11_lackAt Mc (nI v) 1 = some (nI c) := c3
    have c4 : f_X12_doVisit_24 100000 (nI v) (nI (wA σ v)) 1 M2 = some (nI c, M2) := c4
    unfold f_X11_perform_18
    rw [c3, c4, bq_s, if_neg (nI_ne0 (by omega) (by omega)), if_neg (nI_ne0 (by omega) (by omega))]
    exact ⟨c, Mc, M2, by omega, rfl, rfl, R2_, pr, P2_⟩
  · have c3 : f_X11_lackAt Mc (nI v) 1 = some 0 := c3
    have c4 : f_X11_loadAt Mc (nI v) 1 = some y1 := c4
    have c5 : f_X12_doVisit_24 100000 (nI v) (nI (wA σ v)) 1 M2 = f_X12_doVisit_24 (99998 + 1) (nI v) (nI (wA σ v)) (nI 2) M3 := c5
    rw [if_pos rfl] at c9
    rw [if_neg (by decide)] at c10
    have m3a : M3.1 = Mm.1 := c6.trans m2a
    have m3b : ∀ c, c ≠ 5 → c ≠ 113 → c ≠ 114 → M3.2.1 c = Mm.2.1 c := fun c x y z => (c7 c y z).trans (m2b c x y z)
    obtain ⟨R3_, P3_⟩ := scr m3a m3b
    rw [c3, c5, bq_s, if_pos rfl]
    rcases read_k (f := 99998) R3_ (KV_p hK pr m3a) hv ha (by rw [m3a]; exact h23) (fun d hd => by rw [c7 5 (by decide) (by decide)]; exact m2l d hd) (k := 2) (.inr rfl) (fun z => absurd z (by decide)) (fun _ => by rw [c10]; exact m24) with ⟨c, d1, d2, d3, d4⟩ | ⟨y2, M4, d3, d4, d5, d6, d7, d8, d9, d10⟩
    · have d3 : f_X11_lackAt Mc (nI v) 2 = some (nI c) := d3
      unfold f_X11_perform_18
      rw [d3, d4, bq_s, if_neg (nI_ne0 (by omega) (by omega))]
      exact ⟨c, Mc, M3, by omega, rfl, rfl, R3_, pr, P3_⟩
    · have d3 : f_X11_lackAt Mc (nI v) 2 = some 0 := d3
      have d4 : f_X11_loadAt Mc (nI v) 2 = some y2 := d4
      have d5 : f_X12_doVisit_24 (99998 + 1) (nI v) (nI (wA σ v)) (nI 2) M3 = f_X12_doVisit_24 (99997 + 1) (nI v) (nI (wA σ v)) (nI 3) M4 := d5
      rw [if_neg (by decide)] at d9
      rw [if_pos rfl] at d10
      rw [c9] at d9
      have m4a : M4.1 = Mm.1 := d6.trans m3a
      have m4b : ∀ c, c ≠ 5 → c ≠ 113 → c ≠ 114 → M4.2.1 c = Mm.2.1 c := fun c x y z => (d7 c y z).trans (m3b c x y z)
      obtain ⟨R4_, P4_⟩ := scr m4a m4b
      have l4 : ∀ d, d < 4 → M4.2.1 5 d = wL σ (v * 4 + d) := fun d hd => by rw [d7 5 (by decide) (by decide), c7 5 (by decide) (by decide)]; exact m2l d hd
      unfold f_X11_perform_18
      rw [d3, d5, bq_s, if_pos rfl, hV, bq_s, c4, bq_s, d4, bq_s, ck40 ha, nI_clamp (by omega), f_X12_doVisit_24, i_n3, if_pos (show nI 3 ≤ nI 3 from nI_le (by omega) (by omega)), ck40 ha, nI_clamp (by omega), k4, m4a, d10]
      have fin : (Mm.1 9 (wA σ v) = 3 → y2 ≠ 0) → ∃ c Mc' Mm', c < 5 ∧ f_X11_perform_71 (nI v) (nI (wA σ v)) y1 y2 Mc = some (nI c, Mc') ∧ f_X12_doVisit_130 (nI v) (nI (wA σ v)) M4 = some (nI c, Mm') ∧ RelN ns nn na nr nk Mc' (sI Mm' 40 0 x) ∧ PC Mc Mc' ∧ PM Mm Mm' := by
        intro hz
        obtain ⟨u, u1, u2⟩ := wo_eq (Mc := Mc) (Mm := M4) (a := wA σ v) ha (by rw [k4, m4a]) (by rw [k5, m4a]) d9 d10 (by rw [m4a]; exact hz)
        unfold f_X12_doVisit_130 f_X11_perform_71
        rw [ck40 ha, ck40 ha, nI_clamp (by omega), u2, bq_s]
        rcases acc_k R4_ (KV_p hK pr m4a) hv ha (by rw [m4a]; exact h23) l4 (k := 0) (by omega) with ⟨q1, q2, q3, q4⟩ | ⟨r, c, r1, r2, r3, r4, r5, r6, r7⟩
        · have q1 : f_X11_lackAt Mc (nI v) 0 = some 0 := q1
          have q3 : f_X12_hasAim M4 (nI v) 0 = some false := q3
          have aa : f_X9_arrayAt Mc (nI v) 0 = some (-9) := by rw [← q4]; exact (hK 0 (by omega)).1
          rw [q1, q3, bq_s, bq_s, if_pos rfl, aa, bq_s, rk_eq h, inN_9, bq_s, if_neg (show ¬ false = true by decide), oq_n, bF]
          exact ⟨0, Mc, M4, by omega, rfl, rfl, R4_, pr, P4_⟩
        · have r4 : f_X11_lackAt Mc (nI v) 0 = some (nI c) := r4
          have r5 : f_X12_hasAim M4 (nI v) 0 = some true := r5
          have r6 : f_X12_meetsAt M4 (nI (wA σ v)) 0 = some (nI c) := r6
          have aa : f_X9_arrayAt Mc (nI v) 0 = some (nI r) := by rw [← r2]; exact (hK 0 (by omega)).1
          rw [r4, r5, r6, bq_s, bq_s, bq_s, bT]
          by_cases q : c = 0
          · obtain ⟨i, j, L, e1, e2, hi, hN, hj, hL, l2, l3, l5, ld, pl⟩ := r7 q
            have pl : f_X12_placeAt M4 (nI (wA σ v)) 0 = some (nI (400 * r + 20 * i + j)) := pl
            have e11 : M4.1 11 (3 * wA σ v) = nI r := by rw [m4a, ← r2]; exact (hK 0 (by omega)).2.1
            obtain ⟨w, w1, w2⟩ := cut_eq R4_ r1 u
            rw [sI_n (show (19 : Nat) ≠ 40 by decide)] at w2
            rw [Nat.add_zero] at e1 e2
            unfold f_X5_store
            rw [q, if_pos (show nI 0 = 0 from rfl), if_pos (show nI 0 ≤ 0 by decide), aa, bq_s, rk_eq h, inN_nI r1 (by omega), bq_s, if_pos rfl, cN_n' (by omega), oq_s, i_n3, pk_mul, ck_nI (by omega) (by omega), ck_nI (by omega) (by omega), u1, bq_s, h.2.2.2.2.1.2.2.2.1, cN_n r1, nI_clamp (by omega), e1, e2, w1, bq_s, i_n20, pk_mul, nI_add, ck_nI (by omega) (by omega), nI_clamp (by omega), bm_s, pl, bq_s, pk_mul, ck_nI (by omega) (by omega), nI_clamp (by omega), e11, ck_nI (by omega) (by omega), nI_clamp (by omega), w2, bq_s, ck_nI (by omega) (by omega), nI_clamp (by omega)]
            refine ⟨0, _, _, by omega, rfl, rfl, store_rel R4_ r1 hi hN hj hL l2 (by rw [sI_n (show (21 : Nat) ≠ 40 by decide)]; exact l3) l5, ⟨rfl, rfl⟩, PM_t P4_ ⟨rfl, fun c x y z w => by rw [sL_n y]⟩⟩
          · rw [if_neg (nI_ne0 (by omega) (by omega)), if_neg (nI_nle (by omega) (by omega))]
            exact ⟨c, Mc, M4, by omega, rfl, rfl, R4_, pr, P4_⟩
      by_cases q3 : Mm.1 9 (wA σ v) = 3
      · rw [if_pos (show Mm.1 9 (wA σ v) = nI 3 from q3), if_pos (show Mm.1 9 (wA σ v) = nI 3 from q3)]
        by_cases qz : y2 = 0
        · rw [if_pos qz, if_pos qz]
          exact ⟨4, Mc, M4, by omega, rfl, rfl, R4_, pr, P4_⟩
        · rw [if_neg qz, if_neg qz]; exact fin (fun _ => qz)
      · rw [if_neg (show ¬ Mm.1 9 (wA σ v) = nI 3 from q3), if_neg (show ¬ Mm.1 9 (wA σ v) = nI 3 from q3)]
        exact fin (fun z => absurd z q3)
end
