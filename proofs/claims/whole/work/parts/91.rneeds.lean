/-! the pure half: needs as the reference counts them -/
section
variable {ns nn : Nat} {kd pa lp fi se ar : Nat → Int32}
/-- the loop around at a depth, and what is around that -/
theorem ar_up (hT : TW ns nn kd pa lp fi se) (hA : AW nn kd pa lp ar) (hn : nn ≤ 40) : ∀ k d, k < nn → d < cN_ (lp k) → ∃ u, u < nn ∧ ar (k * 4 + d) = nI u ∧ cN_ (lp u) = d ∧ ∀ e, e < d → ar (k * 4 + e) = ar (u * 4 + e) := by
  intro k
  induction k using Nat.strongRecOn with
  | ind k ih =>
    intro d hk hd
    obtain ⟨t1, t2, t3, t4, t5, t6, _⟩ := hT k hk
    rcases t2 with z | ⟨z1, z2, z3⟩
    · rw [t4 z] at hd; omega
    · have n9 : pa k ≠ -9 := by rw [z1]; exact nN9 (by omega)
      generalize hu : cN_ (pa k) = u at *
      by_cases hl : Lq kd u
      · have hL := t5 n9 hl
        by_cases y : d + 1 = cN_ (lp k)
        · have g := (hA k hk d hd).1
          rw [hu] at g
          refine ⟨u, by omega, by rw [g ⟨y, hl⟩, z1], by omega, fun e he => ?_⟩
          have g2 := (hA k hk e (by omega)).2
          rw [hu] at g2
          exact g2 (fun x => by omega)
        · obtain ⟨u', i1, i2, i3, i4⟩ := ih u z2 d (by omega) (by omega)
          have g := (hA k hk d hd).2
          rw [hu] at g
          refine ⟨u', i1, by rw [g (fun x => y x.1), i2], i3, fun e he => ?_⟩
          have g2 := (hA k hk e (by omega)).2
          rw [hu] at g2
          rw [g2 (fun x => by omega)]; exact i4 e he
      · have hL := t6 n9 hl
        obtain ⟨u', i1, i2, i3, i4⟩ := ih u z2 d (by omega) (by omega)
        have g := (hA k hk d hd).2
        rw [hu] at g
        refine ⟨u', i1, by rw [g (fun x => hl x.2), i2], i3, fun e he => ?_⟩
        have g2 := (hA k hk e (by omega)).2
        rw [hu] at g2
        rw [g2 (fun x => hl x.2)]; exact i4 e he
theorem cm_lt {m n : Nat} : ∀ k d0 d, d0 ≤ d → d < d0 + k → (d < comO lp ar m n k d0 ↔ ∀ e, d0 ≤ e → e ≤ d → e < cN_ (lp m) ∧ e < cN_ (lp n) ∧ ar (m * 4 + e) = ar (n * 4 + e)) := by
  intro k
  induction k with
  | zero => intro d0 d h1 h2; omega
  | succ k ih =>
    intro d0 d h1 h2
    unfold comO
    by_cases q : d0 < cN_ (lp m) ∧ d0 < cN_ (lp n) ∧ ar (m * 4 + d0) = ar (n * 4 + d0)
    · rw [if_pos q]
      by_cases z : d = d0
      · have ge : d0 + 1 ≤ comO lp ar m n k (d0 + 1) := by
          have : ∀ k d, d ≤ comO lp ar m n k d := by
            intro k
            induction k with
            | zero => intro d; exact Nat.le_refl _
            | succ k ih =>
              intro d
              unfold comO
              by_cases q : d < cN_ (lp m) ∧ d < cN_ (lp n) ∧ ar (m * 4 + d) = ar (n * 4 + d)
              · rw [if_pos q]; have := ih (d + 1); omega
              · rw [if_neg q]; exact Nat.le_refl _
          exact this k (d0 + 1)
        exact ⟨fun _ e e1 e2 => by rw [show e = d0 by omega]; exact q, fun _ => by omega⟩
      · rw [ih (d0 + 1) d (by omega) (by omega)]
        exact ⟨fun h e e1 e2 => by
          by_cases y : e = d0
          · rw [y]; exact q
          · exact h e (by omega) e2, fun h e e1 e2 => h e (by omega) e2⟩
    · rw [if_neg q]
      exact ⟨fun h => absurd h (by omega), fun h => absurd (h d0 (by omega) h1) q⟩
theorem lo_eq2 (hT : TW ns nn kd pa lp fi se) (hA : AW nn kd pa lp ar) (hn : nn ≤ 40) {M : Mem} (e6 : M.1 6 = kd) (e7 : M.1 7 = pa) (e8 : M.1 8 = lp) {d k : Nat} (hd : d < 4) (hk : k < nn) : f_X12_loopOf M (nI k) (nI d) = some (if d < cN_ (lp k) then ar (k * 4 + d) else -9) := by
  unfold f_X12_loopOf
  rw [ck40 (by omega), nI_clamp (by omega), e7]
  exact lpOf_eq hT hA hn e6 e7 e8 hd k 100000 hk (by omega)
def cx (d : Nat) : Int32 := if d = 4 then -9 else nI d
theorem ca_eq (hT : TW ns nn kd pa lp fi se) (hA : AW nn kd pa lp ar) (hn : nn ≤ 40) {M : Mem} {σ : Ws} (e6 : M.1 6 = kd) (e7 : M.1 7 = pa) (e8 : M.1 8 = lp) (hVM : VM σ M) (hN : wN σ ≤ 400) (hk : ∀ v, v < wN σ → wA σ v < nn) {v w : Nat} (hv : v < wN σ) (hw : w < wN σ) :
    f_X12_carrier M (nI v) (nI w) = some (cx (depO lp ar σ v w)) := by
  have kv := hk v hv
  have kw := hk w hw
  unfold f_X12_carrier depO
  have main : ∀ r d f, d + r = 4 → r < f → comO lp ar (wA σ v) (wA σ w) 4 0 = comO lp ar (wA σ v) (wA σ w) r d → f_X12_carrier_2 f (nI v) (nI w) (nI d) M = some (cx (dpO (wL σ) v w (comO lp ar (wA σ v) (wA σ w) 4 0) r d)) := by
    intro r
    induction r with
    | zero =>
      intro d f hd hf hc
      obtain ⟨f, rfl⟩ : ∃ z, f = z + 1 := ⟨f - 1, by omega⟩
      rw [f_X12_carrier_2, i_n4, if_pos (nI_le (by omega) (by omega))]; rfl
    | succ r ih =>
      intro d f hd hf hc
      obtain ⟨f, rfl⟩ : ∃ z, f = z + 1 := ⟨f - 1, by omega⟩
      have hle := @cm_le lp ar (wA σ v) (wA σ w) (r + 1) d
      rw [f_X12_carrier_2, i_n4, if_neg (nI_ge (by omega) (by omega)), ck_nI (by omega) (by omega), nI_clamp (by omega), hVM.2.1 v hv, lo_eq2 hT hA hn e6 e7 e8 (by omega) kv, bq_s, ck_nI (by omega) (by omega), nI_clamp (by omega), hVM.2.1 w hw, lo_eq2 hT hA hn e6 e7 e8 (by omega) kw, bq_s, nI_1]
      generalize hcom : comO lp ar (wA σ v) (wA σ w) 4 0 = com at *
      unfold comO at hc
      unfold dpO
      by_cases q : d < cN_ (lp (wA σ v)) ∧ d < cN_ (lp (wA σ w)) ∧ ar (wA σ v * 4 + d) = ar (wA σ w * 4 + d)
      · rw [if_pos q] at hc
        obtain ⟨q1, q2, q3⟩ := q
        have ge : d < com := by
          have : ∀ k d, d ≤ comO lp ar (wA σ v) (wA σ w) k d := by
            intro k
            induction k with
            | zero => intro d; exact Nat.le_refl _
            | succ k ih =>
              intro d
              unfold comO
              by_cases q : d < cN_ (lp (wA σ v)) ∧ d < cN_ (lp (wA σ w)) ∧ ar (wA σ v * 4 + d) = ar (wA σ w * 4 + d)
              · rw [if_pos q]; have := ih (d + 1); omega
              · rw [if_neg q]; exact Nat.le_refl _
          have := this r (d + 1)
          omega
        obtain ⟨u, u1, u2, _⟩ := ar_up hT hA hn (wA σ v) d kv q1
        rw [if_pos q1, if_pos q2, ← q3, u2, if_neg (nN9 (by omega)), if_pos rfl, pk_mul, pk_mul, nI_add, nI_add, ck_nI (by omega) (by omega), ck_nI (by omega) (by omega), nI_clamp (by omega), nI_clamp (by omega), hVM.2.2 _ (by omega), hVM.2.2 _ (by omega), if_pos ge, Nat.mul_comm 4 v, Nat.mul_comm 4 w]
        by_cases z : wL σ (v * 4 + d) = wL σ (w * 4 + d)
        · rw [if_pos z, if_pos z]; exact ih (d + 1) f (by omega) (by omega) hc
        · rw [if_neg z, if_neg z]; unfold cx; rw [if_neg (by omega)]
      · rw [if_neg q] at hc
        have c4 : cx (if d < com then (if wL σ (v * 4 + d) = wL σ (w * 4 + d) then dpO (wL σ) v w com r (d + 1) else d) else 4) = -9 := by rw [if_neg (by omega)]; rfl
        rw [c4]
        by_cases q1 : d < cN_ (lp (wA σ v))
        · rw [if_pos q1]
          by_cases q2 : d < cN_ (lp (wA σ w))
          · rw [if_pos q2, if_neg (fun z => q ⟨q1, q2, z⟩)]
            by_cases y : ar (wA σ v * 4 + d) = -9
            · rw [if_pos y]
            · rw [if_neg y]
          · rw [if_neg q2]
            by_cases y : ar (wA σ v * 4 + d) = -9
            · rw [if_pos y]
            · rw [if_neg y, if_neg y]
        · rw [if_neg q1, if_pos rfl]
  exact main 4 0 100000 (by omega) (by omega) rfl
end
section
variable {M : Mem} {σ : Ws} {T : Tc}
noncomputable def gN (T : Tc) (σ : Ws) (j i k w v : Nat) : Nat := ind (nI j = nI (wA σ v) ∧ nI i = nI (wA σ w) ∧ need T v w k)
theorem rn88 {k76 : Int32 → Int32 → Int32 → Int32 → Int32 → Mem → Option (Int32 × Mem)} (hVM : VM σ M) (hN : wN σ ≤ 400) (hk : ∀ v, v < wN σ → wA σ v < 40) (hT : TM σ T M) {j i k w : Nat} (h3 : k < 3) (hw : w < wN σ) (A : Nat) (hto : nI i = nI (wA σ w)) :
    ∀ r v f, v + r = w → r < f → f_X12_needs_88 k76 f (nI j) (nI i) (nI k) (nI (A + sm (gN T σ j i k w) v)) (nI w) (nI v) M = k76 (nI j) (nI i) (nI k) (nI (A + sm (gN T σ j i k w) w)) (nI (w + 1)) M := by
  intro r
  induction r with
  | zero =>
    intro v f hv hf
    obtain ⟨f, rfl⟩ : ∃ z, f = z + 1 := ⟨f - 1, by omega⟩
    have : v = w := by omega
    subst this
    rw [f_X12_needs_88, if_pos (nI_le (by omega) (by omega)), nI_1]
  | succ r ih =>
    intro v f hv hf
    obtain ⟨f, rfl⟩ : ∃ z, f = z + 1 := ⟨f - 1, by omega⟩
    have st : sm (gN T σ j i k w) (v + 1) = sm (gN T σ j i k w) v + gN T σ j i k w v := rfl
    have nx := ih (v + 1) f (by omega) (by omega)
    rw [f_X12_needs_88, if_neg (nI_ge (by omega) (by omega)), ck_nI (by omega) (by omega), ck_nI (by omega) (by omega), nI_clamp (by omega), nI_clamp (by omega), hVM.2.1 v (by omega), hVM.2.1 w hw, if_pos hto.symm, nI_1, nI_1, Int32.add_zero]
    by_cases q : nI (wA σ v) = nI j
    · rw [if_pos q]
      obtain ⟨x, x1, x2⟩ := need_m hVM hN hk hT (v := v) (w := w) (k := k) (by omega) hw h3
      rw [x1, bq_s]
      cases x with
      | true =>
        rw [bT]
        have : gN T σ j i k w v = 1 := ind_t ⟨q.symm, hto, x2.mp rfl⟩
        rw [st, this] at nx
        exact nx
      | false =>
        rw [bF]
        have : gN T σ j i k w v = 0 := ind_f (fun z => absurd (x2.mpr z.2.2) (by decide))
        rw [st, this] at nx
        exact nx
    · rw [if_neg q]
      have : gN T σ j i k w v = 0 := ind_f (fun z => q z.1.symm)
      rw [st, this] at nx
      exact nx
theorem rn76 (hVM : VM σ M) (hN : wN σ ≤ 400) (hk : ∀ v, v < wN σ → wA σ v < 40) (hT : TM σ T M) {j i k : Nat} (h3 : k < 3) :
    ∀ r w f, w + r = wN σ → r < f → f_X12_needs_76 f (nI j) (nI i) (nI k) (nI (sm (fun w => sm (gN T σ j i k w) w) w)) (nI w) M = some (nI (sm (fun w => sm (gN T σ j i k w) w) (wN σ)), M) := by
  intro r
  induction r with
  | zero =>
    intro w f hw hf
    obtain ⟨f, rfl⟩ : ∃ z, f = z + 1 := ⟨f - 1, by omega⟩
    have : w = wN σ := by omega
    subst this
    rw [f_X12_needs_76, hVM.1, if_pos (nI_le (by omega) (by omega))]
  | succ r ih =>
    intro w f hw hf
    obtain ⟨f, rfl⟩ : ∃ z, f = z + 1 := ⟨f - 1, by omega⟩
    have st : sm (fun w => sm (gN T σ j i k w) w) (w + 1) = sm (fun w => sm (gN T σ j i k w) w) w + sm (gN T σ j i k w) w := rfl
    have nx := ih (w + 1) f (by omega) (by omega)
    rw [f_X12_needs_76, hVM.1, if_neg (nI_ge (by omega) (by omega)), i_n0]
    by_cases q : nI i = nI (wA σ w)
    · have := rn88 (k76 := f_X12_needs_76 f) hVM hN hk hT (j := j) (i := i) h3 (show w < wN σ by omega) (sm (fun w => sm (gN T σ j i k w) w) w) q w 0 100000 (by omega) (by omega)
      have this : f_X12_needs_88 (f_X12_needs_76 f) 100000 (nI j) (nI i) (nI k) (nI (sm (fun w => sm (gN T σ j i k w) w) w)) (nI w) (nI 0) M = _ := this
      rw [this]
      exact nx
    · have z : sm (gN T σ j i k w) w = 0 := by
        apply Classical.byContradiction
        intro y
        obtain ⟨v, _, y2⟩ := sm_nz w y
        exact q (ind_n y2).2.1
      rw [st, z] at nx
      rw [show (100000 : Nat) = 99999 + 1 from rfl, f_X12_needs_88]
      by_cases y : w ≤ 0
      · rw [if_pos (nI_le y (by omega)), nI_1]; exact nx
      · rw [if_neg (nI_ge (by omega) (by omega)), ck_nI (by omega) (by omega), nI_clamp (by omega), hVM.2.1 w (by omega), if_neg (fun z => q z.symm), nI_1]; exact nx
/-- needs by their depth -/
noncomputable def gD (T : Tc) (lp ar : Nat → Int32) (σ : Ws) (d w v k : Nat) : Nat := ind (need T v w k ∧ depO lp ar σ v w = d)
theorem cx_inj {a b : Nat} (ha : a ≤ 4) (hb : b ≤ 4) : cx a = cx b ↔ a = b := by
  unfold cx
  constructor
  · intro h
    by_cases x : a = 4
    · by_cases y : b = 4
      · omega
      · rw [if_pos x, if_neg y] at h; exact absurd h.symm (nN9 (by omega))
    · by_cases y : b = 4
      · rw [if_neg x, if_pos y] at h; exact absurd h (nN9 (by omega))
      · rw [if_neg x, if_neg y] at h; exact nI_inj (by omega) (by omega) h
  · intro h; rw [h]
variable {lp ar : Nat → Int32}
theorem dep_l (v w : Nat) : depO lp ar σ v w ≤ 4 := dp_l 4 0 rfl
theorem rc58 {k49 : Int32 → Int32 → Int32 → Int32 → Mem → Option (Int32 × Mem)} (hVM : VM σ M) (hN : wN σ ≤ 400) (hk : ∀ v, v < wN σ → wA σ v < 40) (hT : TM σ T M) (hca : ∀ v w, v < wN σ → w < wN σ → f_X12_carrier M (nI v) (nI w) = some (cx (depO lp ar σ v w))) {d v w : Nat} (hd : d ≤ 4) (hvw : v < w) (hw : w < wN σ) (A : Nat) :
    ∀ r k f, k + r = 3 → r < f → f_X12_carried_58 k49 f (cx d) (nI (A + sm (gD T lp ar σ d w v) k)) (nI w) (nI v) (nI k) M = k49 (cx d) (nI (A + sm (gD T lp ar σ d w v) 3)) (nI w) (nI (v + 1)) M := by
  intro r
  induction r with
  | zero =>
    intro k f hr hf
    obtain ⟨f, rfl⟩ : ∃ z, f = z + 1 := ⟨f - 1, by omega⟩
    have : k = 3 := by omega
    subst this
    rw [f_X12_carried_58, i_n3, if_pos (nI_le (by omega) (by omega)), nI_1]
  | succ r ih =>
    intro k f hr hf
    obtain ⟨f, rfl⟩ : ∃ z, f = z + 1 := ⟨f - 1, by omega⟩
    have st : sm (gD T lp ar σ d w v) (k + 1) = sm (gD T lp ar σ d w v) k + gD T lp ar σ d w v k := rfl
    have nx := ih (k + 1) f (by omega) (by omega)
    obtain ⟨x, x1, x2⟩ := need_m hVM hN hk hT (v := v) (w := w) (k := k) (by omega) hw (by omega)
    rw [f_X12_carried_58, i_n3, if_neg (nI_ge (by omega) (by omega)), x1, bq_s, hca v w (by omega) hw, bq_s, nI_1, nI_1, Int32.add_zero]
    cases x with
    | true =>
      rw [bT]
      by_cases q : depO lp ar σ v w = d
      · rw [if_pos (by rw [q])]
        have : gD T lp ar σ d w v k = 1 := ind_t ⟨x2.mp rfl, q⟩
        rw [st, this] at nx
        exact nx
      · rw [if_neg (fun z => q ((cx_inj (dep_l v w) hd).mp z))]
        have : gD T lp ar σ d w v k = 0 := ind_f (fun z => q z.2)
        rw [st, this] at nx
        exact nx
    | false =>
      rw [bF]
      have : gD T lp ar σ d w v k = 0 := ind_f (fun z => absurd (x2.mpr z.1) (by decide))
      rw [st, this] at nx
      exact nx
theorem rc49 {k38 : Int32 → Int32 → Int32 → Mem → Option (Int32 × Mem)} (hVM : VM σ M) (hN : wN σ ≤ 400) (hk : ∀ v, v < wN σ → wA σ v < 40) (hT : TM σ T M) (hca : ∀ v w, v < wN σ → w < wN σ → f_X12_carrier M (nI v) (nI w) = some (cx (depO lp ar σ v w))) {d w : Nat} (hd : d ≤ 4) (hw : w < wN σ) (A : Nat) :
    ∀ r v f, v + r = w → r < f → f_X12_carried_49 k38 f (cx d) (nI (A + sm (fun v => sm (gD T lp ar σ d w v) 3) v)) (nI w) (nI v) M = k38 (cx d) (nI (A + sm (fun v => sm (gD T lp ar σ d w v) 3) w)) (nI (w + 1)) M := by
  intro r
  induction r with
  | zero =>
    intro v f hr hf
    obtain ⟨f, rfl⟩ : ∃ z, f = z + 1 := ⟨f - 1, by omega⟩
    have : v = w := by omega
    subst this
    rw [f_X12_carried_49, if_pos (nI_le (by omega) (by omega)), nI_1]
  | succ r ih =>
    intro v f hr hf
    obtain ⟨f, rfl⟩ : ∃ z, f = z + 1 := ⟨f - 1, by omega⟩
    have nx := ih (v + 1) f (by omega) (by omega)
    rw [f_X12_carried_49, if_neg (nI_ge (by omega) (by omega)), i_n0]
    have := rc58 (k49 := f_X12_carried_49 k38 f) (lp := lp) (ar := ar) hVM hN hk hT hca hd (show v < w by omega) hw (A + sm (fun v => sm (gD T lp ar σ d w v) 3) v) 3 0 100000 (by omega) (by omega)
    have this : f_X12_carried_58 (f_X12_carried_49 k38 f) 100000 (cx d) (nI (A + sm (fun v => sm (gD T lp ar σ d w v) 3) v)) (nI w) (nI v) (nI 0) M = _ := this
    rw [this, Nat.add_assoc]
    exact nx
theorem rc38 (hVM : VM σ M) (hN : wN σ ≤ 400) (hk : ∀ v, v < wN σ → wA σ v < 40) (hT : TM σ T M) (hca : ∀ v w, v < wN σ → w < wN σ → f_X12_carrier M (nI v) (nI w) = some (cx (depO lp ar σ v w))) {d : Nat} (hd : d ≤ 4) :
    ∀ r w f, w + r = wN σ → r < f → f_X12_carried_38 f (cx d) (nI (sm (fun w => sm (fun v => sm (gD T lp ar σ d w v) 3) w) w)) (nI w) M = some (nI (sm (fun w => sm (fun v => sm (gD T lp ar σ d w v) 3) w) (wN σ)), M) := by
  intro r
  induction r with
  | zero =>
    intro w f hr hf
    obtain ⟨f, rfl⟩ : ∃ z, f = z + 1 := ⟨f - 1, by omega⟩
    have : w = wN σ := by omega
    subst this
    rw [f_X12_carried_38, hVM.1, if_pos (nI_le (by omega) (by omega))]
  | succ r ih =>
    intro w f hr hf
    obtain ⟨f, rfl⟩ : ∃ z, f = z + 1 := ⟨f - 1, by omega⟩
    have nx := ih (w + 1) f (by omega) (by omega)
    rw [f_X12_carried_38, hVM.1, if_neg (nI_ge (by omega) (by omega)), i_n0]
    have := rc49 (k38 := f_X12_carried_38 f) (lp := lp) (ar := ar) hVM hN hk hT hca hd (show w < wN σ by omega) (sm (fun w => sm (fun v => sm (gD T lp ar σ d w v) 3) w) w) w 0 100000 (by omega) (by omega)
    have this : f_X12_carried_49 (f_X12_carried_38 f) 100000 (cx d) (nI (sm (fun w => sm (fun v => sm (gD T lp ar σ d w v) 3) w) w)) (nI w) (nI 0) M = _ := this
    rw [this]
    exact nx
end
