/-! the pure half: what visits touch, in the reference -/
def On7 (M M' : Mem) : Prop := M'.1 = M.1 ∧ (∀ c, c ≠ 5 → c ≠ 28 → c ≠ 29 → M'.2.1 c = M.2.1 c) ∧ M'.2.2 = M.2.2
theorem On7_t {M M1 M2 : Mem} (h : On7 M M1) (g : On7 M1 M2) : On7 M M2 := ⟨g.1.trans h.1, fun c x y z => (g.2.1 c x y z).trans (h.2.1 c x y z), g.2.2.trans h.2.2⟩
theorem On7_M {M M' : Mem} (h : On7 M M') : MFr M M' := ⟨fun c _ => by rw [h.1], h.2.1 22 (by decide) (by decide) (by decide), h.2.1 105 (by decide) (by decide) (by decide)⟩
theorem VM_7 {σ : Ws} {M M' : Mem} (h : VM σ M) (g : On7 M M') : VM σ M' := ⟨by rw [g.1]; exact h.1, fun v hv => by rw [g.1]; exact h.2.1 v hv, fun j hj => by rw [g.2.1 24 (by decide) (by decide) (by decide)]; exact h.2.2 j hj⟩
theorem lo_eq {M0 : Mem} {v : Nat} (hv : v < 400) : ∀ r d f M, d + r = 4 → r < f → OnL 5 M0 M → (∀ e, e < d → M.2.1 5 e = M0.2.1 24 (v * 4 + e)) → ∃ M', f_X12_lettersOf_2 f (nI v) (nI d) M = some M' ∧ OnL 5 M0 M' ∧ ∀ e, e < 4 → M'.2.1 5 e = M0.2.1 24 (v * 4 + e) := by
  intro r
  induction r with
  | zero =>
    intro d f M hd hf hO h1
    obtain ⟨f, rfl⟩ : ∃ z, f = z + 1 := ⟨f - 1, by omega⟩
    rw [f_X12_lettersOf_2, i_n4, if_pos (nI_le (by omega) (by omega))]
    exact ⟨M, rfl, hO, fun e he => h1 e (by omega)⟩
  | succ r ih =>
    intro d f M hd hf hO h1
    obtain ⟨f, rfl⟩ : ∃ z, f = z + 1 := ⟨f - 1, by omega⟩
    rw [f_X12_lettersOf_2, i_n4, if_neg (nI_ge (by omega) (by omega)), pk_mul, nI_add, ck_nI (by omega) (by omega), ck_nI (by omega) (by omega), nI_clamp (by omega), nI_clamp (by omega), nI_1, hO.2.1 24 (by decide), Nat.mul_comm 4 v]
    refine ih (d + 1) f _ (by omega) (by omega) (OnL_s hO) (fun e he => ?_)
    by_cases z : e = d
    · rw [z, sL_e, pk_uLs]
    · rw [sL_e, pk_uLn z]; exact h1 e (by omega)
/-- the aims of visits are sums that are there -/
def AimOk (σ : Ws) (aA aR aP : Nat → Int32) : Prop := ∀ v, v < wN σ → ∀ w, w < 3 → aA (3 * wA σ v + w) ≠ -9 → (∃ s, s < 80 ∧ aR (3 * wA σ v + w) = nI s) ∧ ∃ s, s < 80 ∧ aP (3 * wA σ v + w) = nI s
def TMq (T : Tc) (n : Nat) (M : Mem) (v w : Nat) : Prop := ∀ v' w', (v' < v ∧ w' < 3 ∨ v' = v ∧ w' < w) → v' < n → T.1 v' w' ≠ -9 → M.2.1 28 (3 * v' + w') = T.2.1 v' w' ∧ M.2.1 29 (3 * v' + w') = T.2.2 v' w'
section
variable {M0 : Mem} {σ : Ws}
theorem ta17 {k2 : Int32 → Mem → Option Mem} {v : Nat} (hVM : VM σ M0) (hN : wN σ ≤ 400) (hk : ∀ v, v < wN σ → wA σ v < 40) (hA : AimOk σ (M0.1 11) (M0.1 12) (M0.1 13)) (hv : v < wN σ) :
    ∀ r w f M, w + r = 3 → r < f → On7 M0 M → (∀ d, d < 4 → M.2.1 5 d = wL σ (v * 4 + d)) → TMq (tcA (M0.1 2) (M0.1 4) (M0.1 11) (M0.1 12) (M0.1 13) σ) (wN σ) M v w →
    ∃ M', f_X12_touchAll_17 k2 f (nI v) (nI w) M = k2 (nI (v + 1)) M' ∧ On7 M0 M' ∧ TMq (tcA (M0.1 2) (M0.1 4) (M0.1 11) (M0.1 12) (M0.1 13) σ) (wN σ) M' (v + 1) 0 := by
  have k1 := hk v hv
  intro r
  induction r with
  | zero =>
    intro w f M hw hf hO hl hT
    obtain ⟨f, rfl⟩ : ∃ z, f = z + 1 := ⟨f - 1, by omega⟩
    rw [f_X12_touchAll_17, i_n3, if_pos (nI_le (by omega) (by omega)), nI_1]
    exact ⟨M, rfl, hO, fun v' w' q => hT v' w' (by omega)⟩
  | succ r ih =>
    intro w f M hw hf hO hl hT
    obtain ⟨f, rfl⟩ : ∃ z, f = z + 1 := ⟨f - 1, by omega⟩
    have e23 : M.1 23 v = nI (wA σ v) := (VM_7 hVM hO).2.1 v hv
    have t1 : (tcA (M0.1 2) (M0.1 4) (M0.1 11) (M0.1 12) (M0.1 13) σ).1 v w = M0.1 11 (3 * wA σ v + w) := if_pos ⟨hv, by omega⟩
    rw [f_X12_touchAll_17, i_n3, if_neg (nI_ge (by omega) (by omega))]
    unfold f_X12_hasAim
    rw [i_n3, ck_nI (by omega) (by omega), nI_clamp (by omega), e23, pk_mul, nI_add, ck_nI (by omega) (by omega), nI_clamp (by omega)]
    by_cases q : M0.1 11 (3 * wA σ v + w) = -9
    · rw [if_pos (by rw [hO.1]; exact q), bq_s, bF, nI_1]
      refine ih (w + 1) f M (by omega) (by omega) hO hl (fun v' w' z z1 z2 => ?_)
      by_cases y : v' = v ∧ w' = w
      · rw [y.1, y.2, t1] at z2; exact absurd q z2
      · exact hT v' w' (by omega) z1 z2
    · obtain ⟨⟨s, s1, s2⟩, ⟨p, p1, p2⟩⟩ := hA v hv w (by omega) q
      rw [if_neg (by rw [hO.1]; exact q), bq_s, bT, ck_nI (by omega) (by omega), ck_nI (by omega) (by omega), hO.1, s2, vo_eq s1, bq_s]
      simp only [sL_1, hO.1]
      have e23' : M0.1 23 v = nI (wA σ v) := hVM.2.1 v hv
      rw [e23', pk_mul, pk_mul, nI_add, nI_add, ck_nI (by omega) (by omega), ck_nI (by omega) (by omega), ck_nI (by omega) (by omega), nI_clamp (by omega), nI_clamp (by omega), p2, vo_eq p1, bq_s, ck_nI (by omega) (by omega), nI_1, sL_1, sL_n (by decide), hO.1]
      have c1 : val (M0.1 2) (M0.1 4) (M.2.1 5) s = (tcA (M0.1 2) (M0.1 4) (M0.1 11) (M0.1 12) (M0.1 13) σ).2.1 v w := by
        show _ = (if v < wN σ ∧ w < 3 ∧ M0.1 11 (3 * wA σ v + w) ≠ -9 then val (M0.1 2) (M0.1 4) (fun d => wL σ (v * 4 + d)) (cN_ (M0.1 12 (3 * wA σ v + w))) else 0)
        rw [if_pos ⟨hv, by omega, q⟩, s2, cN_n' (by omega)]
        exact val_h hl
      have c2 : val (M0.1 2) (M0.1 4) (M.2.1 5) p = (tcA (M0.1 2) (M0.1 4) (M0.1 11) (M0.1 12) (M0.1 13) σ).2.2 v w := by
        show _ = (if v < wN σ ∧ w < 3 ∧ M0.1 11 (3 * wA σ v + w) ≠ -9 then val (M0.1 2) (M0.1 4) (fun d => wL σ (v * 4 + d)) (cN_ (M0.1 13 (3 * wA σ v + w))) else 0)
        rw [if_pos ⟨hv, by omega, q⟩, p2, cN_n' (by omega)]
        exact val_h hl
      rw [c1, c2]
      refine ih (w + 1) f _ (by omega) (by omega) ⟨hO.1, fun c x y z => by rw [sL_n z, sL_n y]; exact hO.2.1 c x y z, hO.2.2⟩ (fun d hd => by rw [sL_n (by decide), sL_n (by decide)]; exact hl d hd) (fun v' w' z z1 z2 => ?_)
      rw [sL_e, sL_n (by decide), sL_e, sL_n (by decide)]
      by_cases y : v' = v ∧ w' = w
      · rw [y.1, y.2, pk_uLs, pk_uLs]; exact ⟨rfl, rfl⟩
      · rw [pk_uLn (by omega), pk_uLn (by omega)]; exact hT v' w' (by omega) z1 z2
theorem ta2 (hVM : VM σ M0) (hN : wN σ ≤ 400) (hk : ∀ v, v < wN σ → wA σ v < 40) (hA : AimOk σ (M0.1 11) (M0.1 12) (M0.1 13)) :
    ∀ r v f M, v + r = wN σ → r < f → On7 M0 M → TMq (tcA (M0.1 2) (M0.1 4) (M0.1 11) (M0.1 12) (M0.1 13) σ) (wN σ) M v 0 →
    ∃ M', f_X12_touchAll_2 f (nI v) M = some M' ∧ On7 M0 M' ∧ TMq (tcA (M0.1 2) (M0.1 4) (M0.1 11) (M0.1 12) (M0.1 13) σ) (wN σ) M' (wN σ) 0 := by
  intro r
  induction r with
  | zero =>
    intro v f M hv hf hO hT
    obtain ⟨f, rfl⟩ : ∃ z, f = z + 1 := ⟨f - 1, by omega⟩
    have : v = wN σ := by omega
    subst this
    rw [f_X12_touchAll_2, (VM_7 hVM hO).1, if_pos (nI_le (by omega) (by omega))]
    exact ⟨M, rfl, hO, hT⟩
  | succ r ih =>
    intro v f M hv hf hO hT
    obtain ⟨f, rfl⟩ : ∃ z, f = z + 1 := ⟨f - 1, by omega⟩
    rw [f_X12_touchAll_2, (VM_7 hVM hO).1, if_neg (nI_ge (by omega) (by omega))]
    obtain ⟨M1, a1, a2, a3⟩ := lo_eq (M0 := M) (v := v) (by omega) 4 0 100000 M (by omega) (by omega) (OnL_r 5 M) (fun e he => absurd he (by omega))
    unfold f_X12_lettersOf
    rw [i_n0, a1, bm_s]
    have hO1 : On7 M0 M1 := ⟨a2.1.trans hO.1, fun c x y z => (a2.2.1 c x).trans (hO.2.1 c x y z), a2.2.2.trans hO.2.2⟩
    obtain ⟨M2, b1, b2, b3⟩ := ta17 (k2 := f_X12_touchAll_2 f) hVM hN hk hA (v := v) (by omega) 3 0 100000 M1 (by omega) (by omega) hO1 (fun d hd => by rw [a3 d hd]; exact (VM_7 hVM hO).2.2 _ (by omega)) (fun v' w' z z1 z2 => by rw [a2.2.1 28 (by decide), a2.2.1 29 (by decide)]; exact hT v' w' z z1 z2)
    rw [b1]
    exact ih (v + 1) f M2 (by omega) (by omega) b2 b3
/-- the touches as the reference keeps them -/
def TM (σ : Ws) (T : Tc) (M : Mem) : Prop := ∀ v w, v < wN σ → w < 3 → M.1 11 (3 * wA σ v + w) = T.1 v w ∧ (T.1 v w ≠ -9 → M.2.1 28 (3 * v + w) = T.2.1 v w ∧ M.2.1 29 (3 * v + w) = T.2.2 v w)
theorem ta_all (hVM : VM σ M0) (hN : wN σ ≤ 400) (hk : ∀ v, v < wN σ → wA σ v < 40) (hA : AimOk σ (M0.1 11) (M0.1 12) (M0.1 13)) :
    ∃ M', f_X12_touchAll M0 = some M' ∧ On7 M0 M' ∧ TM σ (tcA (M0.1 2) (M0.1 4) (M0.1 11) (M0.1 12) (M0.1 13) σ) M' := by
  obtain ⟨M', a1, a2, a3⟩ := ta2 hVM hN hk hA (wN σ) 0 100000 M0 (by omega) (by omega) ⟨rfl, fun _ _ _ _ => rfl, rfl⟩ (fun v' w' z => by omega)
  refine ⟨M', a1, a2, fun v w hv hw => ⟨?_, a3 v w (by omega) hv⟩⟩
  rw [a2.1]
  exact (if_pos ⟨hv, hw⟩).symm
variable {M : Mem} {T : Tc}
theorem one_m (hVM : VM σ M) (hN : wN σ ≤ 400) (hk : ∀ v, v < wN σ → wA σ v < 40) (hT : TM σ T M) {v a w b : Nat} (hv : v < wN σ) (hw : w < wN σ) (ha : a < 3) (hb : b < 3) : ∃ x, f_X12_isOne M (nI v) (nI a) (nI w) (nI b) = some x ∧ (x = true ↔ oneT T v a w b) := by
  have k1 := hk v hv
  have k2 := hk w hw
  obtain ⟨t1, t2⟩ := hT v a hv ha
  obtain ⟨u1, u2⟩ := hT w b hw hb
  unfold f_X12_isOne f_X12_hasAim oneT
  rw [i_n3]
  simp only [ck_nI (show v < 401 by omega) (by decide : (401 : Nat) < 2 ^ 31), ck_nI (show w < 401 by omega) (by decide : (401 : Nat) < 2 ^ 31), nI_clamp (show v < 2 ^ 31 by omega), nI_clamp (show w < 2 ^ 31 by omega), hVM.2.1 v hv, hVM.2.1 w hw, pk_mul, nI_add, ck_nI (show 3 * wA σ v + a < 120 by omega) (by decide : (120 : Nat) < 2 ^ 31), ck_nI (show 3 * wA σ w + b < 120 by omega) (by decide : (120 : Nat) < 2 ^ 31), nI_clamp (show 3 * wA σ v + a < 2 ^ 31 by omega), nI_clamp (show 3 * wA σ w + b < 2 ^ 31 by omega), ck_nI (show 3 * v + a < 1200 by omega) (by decide : (1200 : Nat) < 2 ^ 31), ck_nI (show 3 * w + b < 1200 by omega) (by decide : (1200 : Nat) < 2 ^ 31), nI_clamp (show 3 * v + a < 2 ^ 31 by omega), nI_clamp (show 3 * w + b < 2 ^ 31 by omega), t1, u1]
  by_cases q1 : T.1 v a = -9
  · rw [if_pos q1, bq_s, bF]
    exact ⟨false, rfl, fun z => absurd z (by decide), fun z => absurd q1 z.1⟩
  · rw [if_neg q1, bq_s, bT]
    by_cases q2 : T.1 w b = -9
    · rw [if_pos q2, bq_s, bF]
      exact ⟨false, rfl, fun z => absurd z (by decide), fun z => absurd q2 z.2.1⟩
    · rw [if_neg q2, bq_s, bT, (t2 q1).1, (t2 q1).2, (u2 q2).1, (u2 q2).2]
      by_cases q3 : T.1 v a = T.1 w b
      · rw [if_pos q3]
        by_cases q4 : T.2.1 v a = T.2.1 w b
        · rw [if_pos q4]
          by_cases q5 : T.2.2 v a = T.2.2 w b
          · rw [if_pos q5]; exact ⟨true, rfl, fun _ => ⟨q1, q2, q3, q4, q5⟩, fun _ => rfl⟩
          · rw [if_neg q5]; exact ⟨false, rfl, fun z => absurd z (by decide), fun z => absurd z.2.2.2.2 q5⟩
        · rw [if_neg q4]; exact ⟨false, rfl, fun z => absurd z (by decide), fun z => absurd z.2.2.2.1 q4⟩
      · rw [if_neg q3]; exact ⟨false, rfl, fun z => absurd z (by decide), fun z => absurd z.2.2.1 q3⟩
theorem need_m (hVM : VM σ M) (hN : wN σ ≤ 400) (hk : ∀ v, v < wN σ → wA σ v < 40) (hT : TM σ T M) {v w k : Nat} (hv : v < wN σ) (hw : w < wN σ) (h3 : k < 3) : ∃ x, f_X12_isNeed M (nI v) (nI w) (nI k) = some x ∧ (x = true ↔ need T v w k) := by
  have o : ∀ a b, a < 3 → b < 3 → ∃ x, f_X12_isOne M (nI v) (nI a) (nI w) (nI b) = some x ∧ (x = true ↔ oneT T v a w b) := fun a b ha hb => one_m hVM hN hk hT hv hw ha hb
  obtain ⟨x00, e00, f00⟩ := o 0 0 (by omega) (by omega)
  obtain ⟨x01, e01, f01⟩ := o 0 1 (by omega) (by omega)
  obtain ⟨x02, e02, f02⟩ := o 0 2 (by omega) (by omega)
  obtain ⟨x10, e10, f10⟩ := o 1 0 (by omega) (by omega)
  obtain ⟨x20, e20, f20⟩ := o 2 0 (by omega) (by omega)
  have n0 : need T v w 0 ↔ (x01 = true ∨ x02 = true) := by rw [f01, f02]; exact Iff.rfl
  have n1 : need T v w 1 ↔ (x10 = true ∨ x20 = true) := by rw [f10, f20]; exact Iff.rfl
  have n2 : need T v w 2 ↔ x00 = true := by rw [f00]; exact Iff.rfl
  unfold f_X12_isNeed
  rw [i_n0, i_n1, i_n2, e00, e01, e02, e10, e20]
  simp only [bq_s]
  rcases (show k = 0 ∨ k = 1 ∨ k = 2 by omega) with z | z | z
  · subst z
    rw [n0, if_neg (show ¬ nI 0 = nI 2 by decide), if_pos (show nI 0 = nI 0 from rfl)]
    cases x01 with
    | true => exact ⟨true, rfl, fun _ => .inl rfl, fun _ => rfl⟩
    | false =>
      cases x02 with
      | true => exact ⟨true, rfl, fun _ => .inr rfl, fun _ => rfl⟩
      | false => exact ⟨false, rfl, fun y => absurd y (by decide), fun y => by rcases y with y | y <;> exact absurd y (by decide)⟩
  · subst z
    rw [n1, if_neg (show ¬ nI 1 = nI 2 by decide), if_neg (show ¬ nI 1 = nI 0 by decide)]
    cases x10 with
    | true => exact ⟨true, rfl, fun _ => .inl rfl, fun _ => rfl⟩
    | false =>
      cases x20 with
      | true => exact ⟨true, rfl, fun _ => .inr rfl, fun _ => rfl⟩
      | false => exact ⟨false, rfl, fun y => absurd y (by decide), fun y => by rcases y with y | y <;> exact absurd y (by decide)⟩
  · subst z
    rw [n2, if_pos (show nI 2 = nI 2 from rfl)]
    exact ⟨x00, rfl, Iff.rfl⟩
end
