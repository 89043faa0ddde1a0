/-! the pure half: calls that tell of needs -/
section
variable {ns nn : Nat} {kd pa lp fi se ar : Nat → Int32}
theorem cm_iff (hT : TW ns nn kd pa lp fi se) (hA : AW nn kd pa lp ar) (hn : nn ≤ 40) {m n d : Nat} (hm : m < nn) (hn' : n < nn) (hd : d < 4) :
    d < comO lp ar m n 4 0 ↔ (if d < cN_ (lp m) then ar (m * 4 + d) else -9) ≠ -9 ∧ (if d < cN_ (lp m) then ar (m * 4 + d) else -9) = (if d < cN_ (lp n) then ar (n * 4 + d) else -9) := by
  rw [cm_lt 4 0 d (by omega) (by omega)]
  constructor
  · intro h
    obtain ⟨h1, h2, h3⟩ := h d (by omega) (by omega)
    obtain ⟨u, u1, u2, _⟩ := ar_up hT hA hn m d hm h1
    rw [if_pos h1, if_pos h2, ← h3, u2]
    exact ⟨nN9 (by omega), rfl⟩
  · intro ⟨h1, h2⟩ e _ he
    by_cases q1 : d < cN_ (lp m)
    · rw [if_pos q1] at h1 h2
      by_cases q2 : d < cN_ (lp n)
      · rw [if_pos q2] at h2
        refine ⟨by omega, by omega, ?_⟩
        by_cases z : e = d
        · rw [z]; exact h2
        · obtain ⟨u, u1, u2, _, u4⟩ := ar_up hT hA hn m d hm q1
          obtain ⟨u', w1, w2, _, w4⟩ := ar_up hT hA hn n d hn' q2
          have : u = u' := nI_inj (by omega) (by omega) (by rw [← u2, ← w2]; exact h2)
          rw [u4 e (by omega), w4 e (by omega), this]
      · rw [if_neg q2] at h2; exact absurd h2 h1
    · rw [if_neg q1] at h1; exact absurd rfl h1
end
section
variable {M : Mem} {σ : Ws} {T : Tc}
def DD (T : Tc) (σ : Ws) (j i v w : Nat) : Prop := nI j = nI (wA σ v) ∧ nI i = nI (wA σ w) ∧ ∃ k, k < 3 ∧ need T v w k
def PD (T : Tc) (σ : Ws) (j i w v : Nat) (v' w' : Nat) : Prop := (w' < w ∧ v' < w' ∨ w' = w ∧ v' < v) ∧ DD T σ j i v' w'
def DIv (σ : Ws) (d : Nat) (mo : Bool) (P : Nat → Nat → Prop) (is : Bool) (x : Int64) : Prop :=
  (is = false ∧ ∀ v w, ¬ P v w) ∨ (is = true ∧ (∃ v w, P v w ∧ x = stp (wL σ) v w d) ∧ ∀ v w, P v w → (mo = true → stp (wL σ) v w d ≤ x) ∧ (mo = false → x ≤ stp (wL σ) v w d))
theorem DIv_c {d : Nat} {mo is : Bool} {P Q : Nat → Nat → Prop} {x : Int64} (h : DIv σ d mo P is x) (e : ∀ v w, P v w ↔ Q v w) : DIv σ d mo Q is x := by
  have : P = Q := funext (fun v => funext (fun w => propext (e v w)))
  rw [← this]; exact h
theorem DIv_n {d v w : Nat} {mo is : Bool} {P : Nat → Nat → Prop} {x : Int64} (h : DIv σ d mo P is x) (hk : is = false ∨ (mo = true ∧ x < stp (wL σ) v w d) ∨ (mo = false ∧ stp (wL σ) v w d < x)) : DIv σ d mo (fun v' w' => P v' w' ∨ v' = v ∧ w' = w) true (stp (wL σ) v w d) := by
  refine .inr ⟨rfl, ⟨v, w, .inr ⟨rfl, rfl⟩, rfl⟩, fun v' w' z => ?_⟩
  rcases z with z | ⟨z1, z2⟩
  · rcases h with ⟨h1, h2⟩ | ⟨h1, _, h3⟩
    · exact absurd z (h2 v' w')
    · rcases hk with q | ⟨q1, q2⟩ | ⟨q1, q2⟩
      · rw [h1] at q; exact absurd q (by decide)
      · exact ⟨fun _ => Int64.le_trans ((h3 v' w' z).1 q1) (Int64.le_of_lt q2), fun y => by rw [q1] at y; exact absurd y (by decide)⟩
      · exact ⟨fun y => by rw [q1] at y; exact absurd y (by decide), fun _ => Int64.le_trans (Int64.le_of_lt q2) ((h3 v' w' z).2 q1)⟩
  · rw [z1, z2]; exact ⟨fun _ => Int64.le_refl _, fun _ => Int64.le_refl _⟩
theorem DIv_k {d v w : Nat} {mo is : Bool} {P : Nat → Nat → Prop} {x : Int64} (h : DIv σ d mo P is x) (hi : is = true) (hk : (mo = true ∧ stp (wL σ) v w d ≤ x) ∨ (mo = false ∧ x ≤ stp (wL σ) v w d)) : DIv σ d mo (fun v' w' => P v' w' ∨ v' = v ∧ w' = w) is x := by
  rcases h with ⟨h1, _⟩ | ⟨h1, ⟨v1, w1, h2, h2'⟩, h3⟩
  · rw [hi] at h1; exact absurd h1 (by decide)
  · refine .inr ⟨hi, ⟨v1, w1, .inl h2, h2'⟩, fun v' w' z => ?_⟩
    rcases z with z | ⟨z1, z2⟩
    · exact h3 v' w' z
    · rw [z1, z2]
      rcases hk with ⟨q1, q2⟩ | ⟨q1, q2⟩
      · exact ⟨fun _ => q2, fun y => by rw [q1] at y; exact absurd y (by decide)⟩
      · exact ⟨fun y => by rw [q1] at y; exact absurd y (by decide), fun _ => q2⟩
theorem d189 {k119 : Int32 → Int32 → Int32 → Bool → Bool → Int64 → Int32 → Int32 → Mem → Option (Int32 × Mem)} {x1 x2 : Int32} {d v w : Nat} {mo is s0 : Bool} {P : Nat → Nat → Prop} {x : Int64} (hVM : VM σ M) (hN : wN σ ≤ 400) (hd : d < 4) (hv : v < wN σ) (hw : w < wN σ) (h : DIv σ d mo P is x) :
    ∃ is' x', f_X12_distance_189 k119 x1 x2 (nI d) mo is x (nI w) (nI v) s0 M = k119 x1 x2 (nI d) mo is' x' (nI w) (nI (v + 1)) M ∧ DIv σ d mo (fun v' w' => P v' w' ∨ s0 = true ∧ v' = v ∧ w' = w) is' x' := by
  unfold f_X12_distance_189
  rw [i_n4, pk_mul, pk_mul, nI_add, nI_add, ck_nI (by omega) (by omega), ck_nI (by omega) (by omega), nI_clamp (by omega), nI_clamp (by omega), hVM.2.2 _ (by omega), hVM.2.2 _ (by omega), nI_1, Nat.mul_comm 4 v, Nat.mul_comm 4 w]
  cases s0 with
  | false =>
    rw [bF]
    exact ⟨is, x, rfl, DIv_c h (fun v' w' => ⟨fun z => .inl z, fun z => by
      rcases z with z | z
      · exact z
      · exact absurd z.1 (by decide)⟩)⟩
  | true =>
    have fix : ∀ {is' x'}, DIv σ d mo (fun v' w' => P v' w' ∨ v' = v ∧ w' = w) is' x' → DIv σ d mo (fun v' w' => P v' w' ∨ true = true ∧ v' = v ∧ w' = w) is' x' := fun z => DIv_c z (fun v' w' => ⟨fun y => by
      rcases y with y | y
      · exact .inl y
      · exact .inr ⟨rfl, y⟩, fun y => by
      rcases y with y | y
      · exact .inl y
      · exact .inr y.2⟩)
    rw [bT]
    cases is with
    | false => exact ⟨true, _, rfl, fix (DIv_n h (.inl rfl))⟩
    | true =>
      rw [bT]
      cases mo with
      | true =>
        rw [bT]
        by_cases q : wL σ (w * 4 + d) - wL σ (v * 4 + d) ≤ x
        · rw [if_pos q]; exact ⟨true, x, rfl, fix (DIv_k h rfl (.inl ⟨rfl, q⟩))⟩
        · rw [if_neg q]; exact ⟨true, _, rfl, fix (DIv_n h (.inr (.inl ⟨rfl, Int64.not_le.mp q⟩)))⟩
      | false =>
        rw [bF]
        by_cases q : x ≤ wL σ (w * 4 + d) - wL σ (v * 4 + d)
        · rw [if_pos q]; exact ⟨true, x, rfl, fix (DIv_k h rfl (.inr ⟨rfl, q⟩))⟩
        · rw [if_neg q]; exact ⟨true, _, rfl, fix (DIv_n h (.inr (.inr ⟨rfl, Int64.not_le.mp q⟩)))⟩
theorem rd119 {k107 : Int32 → Int32 → Int32 → Bool → Bool → Int64 → Int32 → Mem → Option (Int32 × Mem)} {j i d w : Nat} {mo : Bool} (hVM : VM σ M) (hN : wN σ ≤ 400) (hk : ∀ v, v < wN σ → wA σ v < 40) (hT : TM σ T M) (hd : d < 4) (hw : w < wN σ) (hto : nI i = nI (wA σ w)) :
    ∀ r v f is x, v + r = w → r < f → DIv σ d mo (PD T σ j i w v) is x → ∃ is' x', f_X12_distance_119 k107 f (nI j) (nI i) (nI d) mo is x (nI w) (nI v) M = k107 (nI j) (nI i) (nI d) mo is' x' (nI (w + 1)) M ∧ DIv σ d mo (PD T σ j i w w) is' x' := by
  intro r
  induction r with
  | zero =>
    intro v f is x hv hf h
    obtain ⟨f, rfl⟩ : ∃ z, f = z + 1 := ⟨f - 1, by omega⟩
    have : v = w := by omega
    subst this
    rw [f_X12_distance_119, if_pos (nI_le (by omega) (by omega)), nI_1]
    exact ⟨is, x, rfl, h⟩
  | succ r ih =>
    intro v f is x hv hf h
    obtain ⟨f, rfl⟩ : ∃ z, f = z + 1 := ⟨f - 1, by omega⟩
    rw [f_X12_distance_119, if_neg (nI_ge (by omega) (by omega)), ck_nI (by omega) (by omega), ck_nI (by omega) (by omega), nI_clamp (by omega), nI_clamp (by omega), hVM.2.1 v (by omega), hVM.2.1 w hw, if_pos hto.symm]
    unfold f_X12_distance_184 f_X12_distance_188
    have go : ∀ s0 : Bool, (s0 = true ↔ DD T σ j i v w) → ∃ is' x', f_X12_distance_189 (f_X12_distance_119 k107 f) (nI j) (nI i) (nI d) mo is x (nI w) (nI v) s0 M = k107 (nI j) (nI i) (nI d) mo is' x' (nI (w + 1)) M ∧ DIv σ d mo (PD T σ j i w w) is' x' := by
      intro s0 hs
      obtain ⟨is1, x1, e1, e2⟩ := d189 (k119 := f_X12_distance_119 k107 f) (x1 := nI j) (x2 := nI i) (s0 := s0) hVM hN hd (show v < wN σ by omega) hw h
      rw [e1]
      refine ih (v + 1) f is1 x1 (by omega) (by omega) (DIv_c e2 (fun v' w' => ⟨fun z => ?_, fun z => ?_⟩))
      · rcases z with z | ⟨z1, z2, z3⟩
        · exact ⟨by have := z.1; omega, z.2⟩
        · rw [z2, z3]; exact ⟨by omega, hs.mp z1⟩
      · by_cases y : v' = v ∧ w' = w
        · refine .inr ⟨hs.mpr ?_, y⟩
          have := z.2
          rw [y.1, y.2] at this
          exact this
        · exact .inl ⟨by have := z.1; omega, z.2⟩
    by_cases q : nI (wA σ v) = nI j
    · rw [if_pos q]
      obtain ⟨b0, n0, m0⟩ := need_m hVM hN hk hT (v := v) (w := w) (k := 0) (by omega) hw (by omega)
      obtain ⟨b1, n1, m1⟩ := need_m hVM hN hk hT (v := v) (w := w) (k := 1) (by omega) hw (by omega)
      obtain ⟨b2, n2, m2⟩ := need_m hVM hN hk hT (v := v) (w := w) (k := 2) (by omega) hw (by omega)
      rw [i_n0, i_n1, i_n2, n0, n1, n2]
      simp only [bq_s]
      cases b0 with
      | true => rw [bT]; exact go true ⟨fun _ => ⟨q.symm, hto, 0, by omega, m0.mp rfl⟩, fun _ => rfl⟩
      | false =>
        rw [bF]
        cases b1 with
        | true => rw [bT]; exact go true ⟨fun _ => ⟨q.symm, hto, 1, by omega, m1.mp rfl⟩, fun _ => rfl⟩
        | false =>
          rw [bF]
          cases b2 with
          | true => rw [bT]; exact go true ⟨fun _ => ⟨q.symm, hto, 2, by omega, m2.mp rfl⟩, fun _ => rfl⟩
          | false =>
            rw [bF]
            refine go false ⟨fun z => absurd z (by decide), fun ⟨_, _, k, k1, k2⟩ => ?_⟩
            rcases (show k = 0 ∨ k = 1 ∨ k = 2 by omega) with z | z | z
            · rw [z] at k2; exact m0.mpr k2
            · rw [z] at k2; exact m1.mpr k2
            · rw [z] at k2; exact m2.mpr k2
    · rw [if_neg q]
      exact go false ⟨fun z => absurd z (by decide), fun z => absurd z.1.symm q⟩
theorem rd107 {j i d : Nat} {mo : Bool} (hVM : VM σ M) (hN : wN σ ≤ 400) (hk : ∀ v, v < wN σ → wA σ v < 40) (hT : TM σ T M) (hd : d < 4) :
    ∀ r w f is x, w + r = wN σ → r < f → DIv σ d mo (PD T σ j i w 0) is x → ∃ is' x', f_X12_distance_107 f (nI j) (nI i) (nI d) mo is x (nI w) M = (if is' = true then some (1, sL M 105 0 x') else some (-9, M)) ∧ DIv σ d mo (PD T σ j i (wN σ) 0) is' x' := by
  intro r
  induction r with
  | zero =>
    intro w f is x hw hf h
    obtain ⟨f, rfl⟩ : ∃ z, f = z + 1 := ⟨f - 1, by omega⟩
    have : w = wN σ := by omega
    subst this
    rw [f_X12_distance_107, hVM.1, if_pos (nI_le (by omega) (by omega))]
    exact ⟨is, x, rfl, h⟩
  | succ r ih =>
    intro w f is x hw hf h
    obtain ⟨f, rfl⟩ : ∃ z, f = z + 1 := ⟨f - 1, by omega⟩
    rw [f_X12_distance_107, hVM.1, if_neg (nI_ge (by omega) (by omega)), i_n0]
    by_cases q : nI i = nI (wA σ w)
    · obtain ⟨is1, x1, e1, e2⟩ := rd119 (k107 := f_X12_distance_107 f) hVM hN hk hT hd (show w < wN σ by omega) q w 0 100000 is x (by omega) (by omega) h
      rw [e1]
      refine ih (w + 1) f is1 x1 (by omega) (by omega) (DIv_c e2 (fun v' w' => ⟨fun z => ⟨by have := z.1; omega, z.2⟩, fun z => ⟨by have := z.1; omega, z.2⟩⟩))
    · have nx := ih (w + 1) f is x (by omega) (by omega) (DIv_c h (fun v' w' => ⟨fun z => ⟨by have := z.1; omega, z.2⟩, fun z => by
        by_cases y : w' = w
        · have := z.2.2.1
          rw [y] at this
          exact absurd this q
        · exact ⟨by have := z.1; omega, z.2⟩⟩))
      rw [show (100000 : Nat) = 99999 + 1 from rfl, f_X12_distance_119]
      by_cases y : w ≤ 0
      · rw [if_pos (nI_le y (by omega)), nI_1]; exact nx
      · rw [if_neg (nI_ge (by omega) (by omega)), ck_nI (by omega) (by omega), nI_clamp (by omega), hVM.2.1 w (by omega), if_neg (fun z => q z.symm), nI_1]; exact nx
end
section
variable {ns nn na nr nk : Nat} {Mc Mm : Mem}
/-- both have their needs -/
theorem needsB (h : RelN ns nn na nr nk Mc Mm) (h113 : zb (Mc.1 113 0) = true) (h112 : zb (Mc.1 112 0) = false) (hVM : VM (sg nn Mm) Mm) :
    ∃ Mc1 Mm1, f_X1_refresh Mc = some Mc1 ∧ f_X12_touchAll Mm = some Mm1 ∧ RelN ns nn na nr nk Mc1 Mm1 ∧ CFr Mc Mc1 ∧ VWc na nn Mc1 Mm ∧ wN (sg nn Mm) ≤ 400 ∧ (∀ v, v < wN (sg nn Mm) → wA (sg nn Mm) v < 40) ∧ VM (sg nn Mm) Mm1 ∧ TM (sg nn Mm) (tcM nn Mm) Mm1 ∧ Mm1.1 = Mm.1 ∧
      NW na (Mc1.1 16) (Mc1.1 11) (Mc1.1 14) (sg nn Mm) (tcM nn Mm) (Mc1.1 44) (Mc1.1 45) (Mc1.1 46) (Mc1.1 47) (Mc1.2.1 49) (Mc1.2.1 50) := by
  obtain ⟨Mc1, a1, a2, a3, a4, a5, a6⟩ := needs2 h h113 h112
  have hV := VWc_of a2 a4 a5
  obtain ⟨Mm1, b1, b2, b3, b4, b5⟩ := touchM a2 hVM hV
  exact ⟨Mc1, Mm1, a1, b1, b2, a3, hV, hV.2.1, wk40 h, b4, b5, b3.1, a6⟩
/-- the pair of two acts -/
theorem pair_eq (h : RelN ns nn na nr nk Mc Mm) {j i : Nat} (hj : j < nn) (hi : i < nn) (j3 : Mm.1 6 j = 3) (i3 : Mm.1 6 i = 3) : ∃ a b, a < na ∧ b < na ∧ Mc.1 16 a = nI j ∧ Mc.1 16 b = nI i ∧ f_X2_pair Mc (nI j) (nI i) = some (nI (a * 12 + b)) := by
  have h2 := h.2.1
  have hn : nn ≤ 40 := h2.2.2.1
  have hna : na ≤ 12 := h2.2.2.2.2.2.1
  have hC := h2.2.2.2.2.2.2.2.2.2.2.2
  have k1 := h2.2.2.2.2.2.2.1.1
  obtain ⟨a, a1, a2, a3⟩ := hC.2.1 j hj (by rw [k1]; exact j3)
  obtain ⟨b, b1, b2, b3⟩ := hC.2.1 i hi (by rw [k1]; exact i3)
  refine ⟨a, b, a1, b1, a3, b3, ?_⟩
  unfold f_X2_pair
  rw [ck40 (by omega), ck40 (by omega), nI_clamp (by omega), nI_clamp (by omega), a2, b2, i_n12, pk_mul, nI_add]
end
theorem sim_needs : Sim_needs Rel := by
  intro Mc Mm y0 y1 y2 ⟨ns, nn, na, nr, nk, h⟩
  have h2 := h.2.1
  have hn : nn ≤ 40 := h2.2.2.1
  unfold f_X11_needs f_X12_needs
  rw [kn_eq h2.1 (by omega), no_eq h2.2.1 (by omega), kn_eq h2.1 (by omega), no_eq h2.2.1 (by omega), in_w 0 2, wi_n y2 (b := 2) (m := 2) (n := 3) rfl rfl (by decide)]
  cases e0 : inN y0 nn with
  | false => exact same_go h _
  | true =>
    cases e1 : inN y1 nn with
    | false => exact same_go h _
    | true =>
      cases e2 : inN y2 3 with
      | false => exact same_go h _
      | true =>
        obtain ⟨j, hj, rfl⟩ := inN_t e0
        obtain ⟨i, hi, rfl⟩ := inN_t e1
        obtain ⟨k, hk, rfl⟩ := inN_t e2
        obtain ⟨Mc1, Mm1, c1, m1, hR, hcF, hmF, hv⟩ := walks h
        simp only [bq_s, bT, if_true, c1, m1, bd_s]
        have g2 := hR.2.1
        have hna : na ≤ 12 := g2.2.2.2.2.2.1
        cases es : wS (wkA (pgM nn Mm)) with
        | true => exact same_go hR _
        | false =>
          obtain ⟨v1, v2, v3, v4⟩ := hv es
          rw [← MFr_pg hmF nn] at v1 v4
          unfold f_X2_isAct
          rw [bF, bF, ck40 (by omega), ck40 (by omega), ck40 (by omega), ck40 (by omega), nI_clamp (by omega), nI_clamp (by omega), g2.2.2.2.2.2.2.1.1]
          by_cases q1 : Mm1.1 6 j = 3
          · rw [if_pos q1, if_pos q1, bq_s, bT]
            by_cases q2 : Mm1.1 6 i = 3
            · rw [if_pos q2, if_pos q2, bq_s, bT]
              obtain ⟨Mc2, Mm2, x1, x2, x3, x4, x5, hN, h40, x6, x7, x8, x9⟩ := needsB hR v2 v3 v1
              obtain ⟨a, b, p1, p2, p3, p4, p5⟩ := pair_eq x3 hj hi (by rw [x8]; exact q1) (by rw [x8]; exact q2)
              rw [x1, x2, bm_s, bm_s, p5, bq_s, i_n3, pk_mul, nI_add, ck_nI (by omega) (by omega), nI_clamp (by omega), x9.1 a p1 b p2 k hk]
              have := rn76 x6 hN h40 x7 (j := j) (i := i) hk (wN (sg nn Mm1)) 0 100000 (by omega) (by omega)
              have this : f_X12_needs_76 100000 (nI j) (nI i) (nI k) 0 0 Mm2 = _ := this
              rw [this, p3, p4]
              exact same_go x3 _
            · rw [if_neg q2, if_neg q2, bq_s, bF]; exact meet_go hR 3 (by decide) rfl
          · rw [if_neg q1, if_neg q1, bq_s, bF]; exact meet_go hR 3 (by decide) rfl
theorem cx_4 : cx 4 = -9 := rfl
theorem cx_n {d : Nat} (h : d < 4) : cx d = nI d := if_neg (by omega)
section
variable {ns nn na nr nk : Nat} {Mc Mm : Mem}
theorem car_m (h : RelN ns nn na nr nk Mc Mm) (hVM : VM (sg nn Mm) Mm) (hN : wN (sg nn Mm) ≤ 400) : ∀ v w, v < wN (sg nn Mm) → w < wN (sg nn Mm) → f_X12_carrier Mm (nI v) (nI w) = some (cx (depO (Mc.1 11) (Mc.1 14) (sg nn Mm) v w)) := by
  intro v w hv hw
  have h2 := h.2.1
  obtain ⟨k1, k2, k3, k4, k5⟩ := h2.2.2.2.2.2.2.1
  exact ca_eq h2.2.2.2.2.2.2.2.1 h2.2.2.2.2.2.2.2.2.2.1 h2.2.2.1 k1.symm k2.symm k3.symm hVM hN (fun v hv => ((wkA_ok (P := pgM nn Mm)).2 v hv).1) hv hw
theorem sim_car (h : RelN ns nn na nr nk Mc Mm) {d : Nat} (hd : d ≤ 4) : ∃ (r : Int32) (Mc1 Mm1 : Mem), f_X11_carried_17 (cx d) Mc = some (r, Mc1) ∧ f_X12_carried_20 (cx d) Mm = some (r, Mm1) ∧ Rel Mc1 Mm1 := by
  unfold f_X11_carried_17 f_X12_carried_20
  obtain ⟨Mc1, Mm1, c1, m1, hR, hcF, hmF, hv⟩ := walks h
  simp only [c1, m1, bd_s]
  cases es : wS (wkA (pgM nn Mm)) with
  | true => exact same_go hR _
  | false =>
    obtain ⟨v1, v2, v3, v4⟩ := hv es
    rw [← MFr_pg hmF nn] at v1 v4
    obtain ⟨Mc2, Mm2, x1, x2, x3, x4, x5, hN, h40, x6, x7, x8, x9⟩ := needsB hR v2 v3 v1
    have e8 : sg nn Mm2 = sg nn Mm1 := by unfold sg pgM; rw [x8]
    have hca := car_m x3 (by rw [e8]; exact x6) (by rw [e8]; exact hN)
    rw [e8] at hca
    have := rc38 (lp := Mc2.1 11) (ar := Mc2.1 14) x6 hN h40 x7 hca hd (wN (sg nn Mm1)) 0 100000 (by omega) (by omega)
    have this : f_X12_carried_38 100000 (cx d) 0 0 Mm2 = _ := this
    rw [bF, bF, x1, x2, bm_s, bm_s, this]
    have ans := x9.2.1 d (by omega)
    by_cases q : d = 4
    · subst q
      rw [if_pos cx_4, i_n4, ck_nI (by omega) (by omega), nI_clamp (by omega), ans]
      exact same_go x3 _
    · rw [cx_n (by omega), if_neg (nN9 (by omega)), ck_nI (by omega) (by omega), nI_clamp (by omega), ans]
      exact same_go x3 _
end
theorem sim_carried : Sim_carried Rel := by
  intro Mc Mm y0 ⟨ns, nn, na, nr, nk, h⟩
  unfold f_X11_carried f_X12_carried
  rw [in_w 0 3, wi_n y0 (b := 3) (m := 3) (n := 4) rfl rfl (by decide), bq_s, bq_s]
  by_cases q : y0 = -9
  · rw [if_pos q, if_pos q]
    have e : inN y0 4 = false := by rw [q]; exact inN_9 4
    rw [e, bF, q, ← cx_4]
    exact sim_car h (by omega)
  · rw [if_neg q, if_neg q]
    cases e : inN y0 4 with
    | false => exact same_go h _
    | true =>
      obtain ⟨d, hd, rfl⟩ := inN_t e
      rw [bT, bT, ← cx_n hd]
      exact sim_car h (by omega)
