/-! the pure half: whether the new order may be -/
theorem QW_pos {n : Nat} {ah : Nat → Nat → Prop} {sq tn : Nat → Int32} (hn : n ≤ 400) (hl : Lin ah) (h : QW n ah sq tn) {v w : Nat} (hv : v < n) (hw : w < n) : cN_ (tn w) < cN_ (tn v) ↔ ah w v := by
  obtain ⟨h1, h2, h3⟩ := h
  have e : ∀ v, v < n → cN_ (sq (cN_ (tn v))) = v := fun v hv => by rw [(h2 v hv).2.2]; exact cN_n' (by omega)
  have lt : ∀ v w, v < n → w < n → cN_ (tn w) < cN_ (tn v) → ah w v := by
    intro v w hv hw z
    have := h3 (cN_ (tn w)) (cN_ (tn v)) z (h2 v hv).2.1
    rw [e v hv, e w hw] at this
    exact this
  refine ⟨lt v w hv hw, fun z => ?_⟩
  rcases Nat.lt_trichotomy (cN_ (tn w)) (cN_ (tn v)) with y | y | y
  · exact y
  · have e1 := e w hw
    rw [y, e v hv] at e1
    rw [e1] at z
    exact absurd z (hl.1 w)
  · exact absurd (hl.2.1 _ _ _ z (lt w v hw hv y)) (hl.1 w)
/-- the touches of the class, by their spots -/
def US (n sp : Nat) (T : Tc) (c41 : Nat → Int32) : Prop := sp ≤ 1200 ∧ (∀ v, v < n → ∀ k, k < 3 → c41 (v * 3 + k) = -9 ∨ ∃ s, s < sp ∧ c41 (v * 3 + k) = nI s) ∧
  ∀ v, v < n → ∀ k, k < 3 → ∀ w, w < n → ∀ j, j < 3 → (oneT T v k w j ↔ ∃ s, s < sp ∧ c41 (w * 3 + j) = nI s ∧ c41 (v * 3 + k) = nI s)
theorem US_of {σ : Ws} {T : Tc} {c114 : Int32} {c39 c40 : Nat → Int64} {c41 : Nat → Int32} (h : UW σ T c114 c39 c40 c41) : ∃ sp, c114 = nI sp ∧ US (wN σ) sp T c41 := by
  obtain ⟨sp, h1, h2, h3, h4⟩ := h
  refine ⟨sp, h1, h2, fun v hv k hk => ?_, fun v hv k hk w hw j hj => ⟨fun o => ?_, fun ⟨s, s1, s2, s3⟩ => ?_⟩⟩
  · by_cases q : T.1 v k = -9
    · exact .inl ((h3 v hv k hk).1 q)
    · exact .inr ((h3 v hv k hk).2 q).1
  · obtain ⟨s, s1, s2⟩ := ((h3 w hw j hj).2 o.2.1).1
    exact ⟨s, s1, s2, by rw [(h4 v hv k hk w hw j hj o.1 o.2.1).mpr o]; exact s2⟩
  · have n1 : T.1 v k ≠ -9 := fun z => by
      have := (h3 v hv k hk).1 z
      rw [s3] at this
      exact nN9 (by omega) this
    have n2 : T.1 w j ≠ -9 := fun z => by
      have := (h3 w hw j hj).1 z
      rw [s2] at this
      exact nN9 (by omega) this
    exact (h4 v hv k hk w hw j hj n1 n2).mp (by rw [s3, s2])
section
variable {n sp : Nat} {T : Tc} {M : Mem}
theorem iS_eq (hn : n ≤ 400) (h : US n sp T (M.1 41)) {v k w j : Nat} (hv : v < n) (hk : k < 3) (hw : w < n) (hj : j < 3) : ∃ x, f_X9_isSame M (nI (v * 3 + k)) (nI (w * 3 + j)) = some x ∧ (x = true ↔ oneT T v k w j) := by
  obtain ⟨h1, h2, h3⟩ := h
  unfold f_X9_isSame
  rw [ck_nI (by omega) (by omega), ck_nI (by omega) (by omega), ck_nI (by omega) (by omega), nI_clamp (by omega), nI_clamp (by omega), h3 v hv k hk w hw j hj]
  rcases h2 v hv k hk with q | ⟨s, s1, s2⟩
  · rw [q, if_pos (by decide)]
    exact ⟨false, rfl, fun z => absurd z (by decide), fun ⟨s, s1, _, s3⟩ => absurd s3.symm (nN9 (by omega))⟩
  · rw [s2, if_neg (nI_pos (by omega))]
    by_cases z : nI s = M.1 41 (w * 3 + j)
    · rw [if_pos z]; exact ⟨true, rfl, fun _ => ⟨s, s1, z.symm, rfl⟩, fun _ => rfl⟩
    · rw [if_neg z]; exact ⟨false, rfl, fun z => absurd z (by decide), fun ⟨s', _, e1, e2⟩ => absurd (e2.trans e1.symm) z⟩
theorem lk_eq (hn : n ≤ 400) (h : US n sp T (M.1 41)) {v w : Nat} (hv : v < n) (hw : w < n) : ∃ x, f_X9_leastKind M (nI v) (nI w) = some x ∧ ((x = -9 ∧ ∀ k, k < 3 → ¬ need T v w k) ∨ ∃ k, k < 3 ∧ x = nI k ∧ need T v w k ∧ ∀ k', k' < k → ¬ need T v w k') := by
  obtain ⟨x1, e1, f1⟩ := iS_eq hn h hv (show 0 < 3 by omega) hw (show 1 < 3 by omega)
  obtain ⟨x2, e2, f2⟩ := iS_eq hn h hv (show 0 < 3 by omega) hw (show 2 < 3 by omega)
  obtain ⟨x3, e3, f3⟩ := iS_eq hn h hv (show 1 < 3 by omega) hw (show 0 < 3 by omega)
  obtain ⟨x4, e4, f4⟩ := iS_eq hn h hv (show 2 < 3 by omega) hw (show 0 < 3 by omega)
  obtain ⟨x5, e5, f5⟩ := iS_eq hn h hv (show 0 < 3 by omega) hw (show 0 < 3 by omega)
  have n0 : need T v w 0 ↔ (x1 = true ∨ x2 = true) := by rw [f1, f2]; exact Iff.rfl
  have n1 : need T v w 1 ↔ (x3 = true ∨ x4 = true) := by rw [f3, f4]; exact Iff.rfl
  have n2 : need T v w 2 ↔ x5 = true := by rw [f5]; exact Iff.rfl
  unfold f_X9_leastKind
  rw [i_n3, pk_mul, pk_mul, i_n1, i_n2, nI_add, nI_add, nI_add, nI_add]
  rw [Nat.add_zero (v * 3)] at e1 e2 e5
  rw [Nat.add_zero (w * 3)] at e3 e4 e5
  rw [e1, bq_s]
  have k0 : ∀ k, k < 3 → k = 0 ∨ k = 1 ∨ k = 2 := fun k hk => by omega
  cases x1 with
  | true => exact ⟨_, rfl, .inr ⟨0, by omega, rfl, n0.mpr (.inl rfl), fun k' hk' => absurd hk' (by omega)⟩⟩
  | false =>
    rw [bF, e2, bq_s]
    cases x2 with
    | true => exact ⟨_, rfl, .inr ⟨0, by omega, rfl, n0.mpr (.inr rfl), fun k' hk' => absurd hk' (by omega)⟩⟩
    | false =>
      have m0 : ¬ need T v w 0 := fun z => by rcases n0.mp z with y | y <;> exact absurd y (by decide)
      rw [bF, e3, bq_s]
      cases x3 with
      | true => exact ⟨_, rfl, .inr ⟨1, by omega, rfl, n1.mpr (.inl rfl), fun k' hk' => by rw [show k' = 0 by omega]; exact m0⟩⟩
      | false =>
        rw [bF, e4, bq_s]
        cases x4 with
        | true => exact ⟨_, rfl, .inr ⟨1, by omega, rfl, n1.mpr (.inr rfl), fun k' hk' => by rw [show k' = 0 by omega]; exact m0⟩⟩
        | false =>
          have m1 : ¬ need T v w 1 := fun z => by rcases n1.mp z with y | y <;> exact absurd y (by decide)
          rw [bF, e5, bq_s]
          cases x5 with
          | true => exact ⟨_, rfl, .inr ⟨2, by omega, rfl, n2.mpr rfl, fun k' hk' => by
              rcases (show k' = 0 ∨ k' = 1 by omega) with y | y
              · rw [y]; exact m0
              · rw [y]; exact m1⟩⟩
          | false => exact ⟨_, rfl, .inl ⟨rfl, fun k hk => by
              rcases k0 k hk with y | y | y
              · rw [y]; exact m0
              · rw [y]; exact m1
              · rw [y]; exact fun z => absurd (n2.mp z) (by decide)⟩⟩
end
/-- rows of latest turns: at each spot the latest of those that Q names -/
def LT (sp : Nat) (L : Nat → Int32) (Q : Nat → Nat → Prop) (ps : Nat → Nat) : Prop := ∀ s, s < sp → (L s = -9 ∨ ∃ p, p < 400 ∧ L s = nI p) ∧ ∀ q, q < 400 → (nI q < L s ↔ ∃ v, Q v s ∧ q < ps v)
theorem LT_c {sp : Nat} {L : Nat → Int32} {Q Q' : Nat → Nat → Prop} {ps : Nat → Nat} (h : LT sp L Q ps) (e : ∀ v s, s < sp → (Q v s ↔ Q' v s)) : LT sp L Q' ps := by
  intro s hs
  refine ⟨(h s hs).1, fun q hq => ?_⟩
  rw [(h s hs).2 q hq]
  exact ⟨fun ⟨v, a, b⟩ => ⟨v, (e v s hs).mp a, b⟩, fun ⟨v, a, b⟩ => ⟨v, (e v s hs).mpr a, b⟩⟩
theorem LT_u {sp s0 w : Nat} {L : Nat → Int32} {Q : Nat → Nat → Prop} {ps : Nat → Nat} (h : LT sp L Q ps) (hs0 : s0 < sp) (hw : ps w < 400) : ∃ x, f_J9_max_7cf53 (L s0) (nI (ps w)) = some x ∧ LT sp (upd L s0 x) (fun v s => Q v s ∨ v = w ∧ s = s0) ps := by
  obtain ⟨h1, h2⟩ := h s0 hs0
  have oth : ∀ x s, s < sp → s ≠ s0 → ((upd L s0 x) s = -9 ∨ ∃ p, p < 400 ∧ (upd L s0 x) s = nI p) ∧ ∀ q, q < 400 → (nI q < (upd L s0 x) s ↔ ∃ v, (Q v s ∨ v = w ∧ s = s0) ∧ q < ps v) := by
    intro x s hs hn
    rw [pk_un hn]
    refine ⟨(h s hs).1, fun q hq => ?_⟩
    rw [(h s hs).2 q hq]
    refine ⟨fun ⟨v, a, b⟩ => ⟨v, .inl a, b⟩, fun ⟨v, a, b⟩ => ⟨v, ?_, b⟩⟩
    rcases a with a | a
    · exact a
    · exact absurd a.2 hn
  unfold f_J9_max_7cf53
  by_cases z : L s0 < nI (ps w)
  · rw [if_pos z]
    refine ⟨_, rfl, fun s hs => ?_⟩
    by_cases e : s = s0
    · rw [e, pk_us]
      refine ⟨.inr ⟨ps w, hw, rfl⟩, fun q hq => ⟨fun y => ⟨w, .inr ⟨rfl, rfl⟩, ?_⟩, fun ⟨v, a, b⟩ => ?_⟩⟩
      · exact (nI_ltI (by omega) (by omega)).mp y
      · rcases a with a | a
        · exact Int32.lt_trans ((h2 q hq).mpr ⟨v, a, b⟩) z
        · rw [a.1] at b; exact nI_lt b (by omega)
    · exact oth _ s hs e
  · rw [if_neg z]
    refine ⟨_, rfl, fun s hs => ?_⟩
    by_cases e : s = s0
    · rw [e, pk_us]
      refine ⟨h1, fun q hq => ⟨fun y => ?_, fun ⟨v, a, b⟩ => ?_⟩⟩
      · obtain ⟨v, a, b⟩ := (h2 q hq).mp y
        exact ⟨v, .inl a, b⟩
      · rcases a with a | a
        · exact (h2 q hq).mpr ⟨v, a, b⟩
        · rw [a.1] at b
          rcases h1 with y | ⟨p, p1, p2⟩
          · rw [y] at z; exact absurd (n9lt (by omega)) z
          · rw [p2] at z ⊢
            have : ps w ≤ p := by
              rcases Nat.lt_or_ge p (ps w) with y | y
              · exact absurd (nI_lt y (by omega)) z
              · exact y
            exact nI_lt (by omega) (by omega)
    · exact oth _ s hs e
def On9 (M M' : Mem) : Prop := (∀ c, c ≠ 60 → c ≠ 61 → M'.1 c = M.1 c) ∧ M'.2 = M.2
section
variable {n sp w : Nat} {T : Tc} {M0 : Mem} {ps : Nat → Nat}
/-- those who wrote, those who touched, so far -/
def wrO (c41 : Nat → Int32) (w : Nat) (v s : Nat) : Prop := v < w ∧ c41 (v * 3) = nI s
def tcO (c41 : Nat → Int32) (w : Nat) (v s : Nat) : Prop := v < w ∧ ∃ k, k < 3 ∧ c41 (v * 3 + k) = nI s
theorem rem2 (hn : n ≤ 400) (hU : US n sp T (M0.1 41)) (hw : w < n) (hps : M0.1 59 w = nI (ps w)) (hpn : ps w < n) :
    ∀ r k f M, k + r = 3 → r < f → On9 M0 M → LT sp (M.1 61) (fun v s => tcO (M0.1 41) w v s ∨ v = w ∧ ∃ k', k' < k ∧ M0.1 41 (w * 3 + k') = nI s) ps → LT sp (M.1 60) (fun v s => wrO (M0.1 41) w v s ∨ v = w ∧ 0 < k ∧ M0.1 41 (w * 3) = nI s) ps →
    ∃ M', f_X10_remember_2 f (nI w) (nI k) M = some M' ∧ On9 M0 M' ∧ LT sp (M'.1 61) (tcO (M0.1 41) (w + 1)) ps ∧ LT sp (M'.1 60) (wrO (M0.1 41) (w + 1)) ps := by
  intro r
  induction r with
  | zero =>
    intro k f M hk hf hO h1 h2
    obtain ⟨f, rfl⟩ : ∃ z, f = z + 1 := ⟨f - 1, by omega⟩
    have : k = 3 := by omega
    subst this
    rw [f_X10_remember_2, i_n3, if_pos (nI_le (by omega) (by omega))]
    refine ⟨M, rfl, hO, LT_c h1 (fun v s hs => ⟨fun z => ?_, fun z => ?_⟩), LT_c h2 (fun v s hs => ⟨fun z => ?_, fun z => ?_⟩)⟩
    · rcases z with z | ⟨z1, z2⟩
      · exact ⟨by have := z.1; omega, z.2⟩
      · rw [z1]; exact ⟨by omega, z2⟩
    · by_cases y : v = w
      · rw [y] at z ⊢; exact .inr ⟨rfl, z.2⟩
      · exact .inl ⟨by have := z.1; omega, z.2⟩
    · rcases z with z | ⟨z1, z2, z3⟩
      · exact ⟨by have := z.1; omega, z.2⟩
      · rw [z1]; exact ⟨by omega, z3⟩
    · by_cases y : v = w
      · rw [y] at z ⊢; exact .inr ⟨rfl, by omega, z.2⟩
      · exact .inl ⟨by have := z.1; omega, z.2⟩
  | succ r ih =>
    intro k f M hk hf hO h1 h2
    obtain ⟨f, rfl⟩ : ∃ z, f = z + 1 := ⟨f - 1, by omega⟩
    have hsp := hU.1
    have e41 : M.1 41 = M0.1 41 := hO.1 41 (by decide) (by decide)
    have e59 : M.1 59 w = nI (ps w) := by rw [hO.1 59 (by decide) (by decide)]; exact hps
    rw [f_X10_remember_2, i_n3, if_neg (nI_ge (by omega) (by omega))]
    simp only [pk_mul, nI_add, ck_nI (show w * 3 + k < 1200 by omega) (by decide : (1200 : Nat) < 2 ^ 31), nI_clamp (show w * 3 + k < 2 ^ 31 by omega), e41, ck_nI (show w < 400 by omega) (by decide : (400 : Nat) < 2 ^ 31), nI_clamp (show w < 2 ^ 31 by omega)]
    rcases hU.2.1 w hw k (by omega) with q | ⟨s, s1, s2⟩
    · rw [q, if_neg (by decide), nI_1]
      refine ih (k + 1) f M (by omega) (by omega) hO (LT_c h1 (fun v s hs => ⟨fun z => ?_, fun z => ?_⟩)) (LT_c h2 (fun v s hs => ⟨fun z => ?_, fun z => ?_⟩))
      · rcases z with z | ⟨z1, k', z2, z3⟩
        · exact .inl z
        · exact .inr ⟨z1, k', by omega, z3⟩
      · rcases z with z | ⟨z1, k', z2, z3⟩
        · exact .inl z
        · refine .inr ⟨z1, k', ?_, z3⟩
          by_cases y : k' = k
          · rw [y, q] at z3; exact absurd z3.symm (nN9 (by omega))
          · omega
      · rcases z with z | ⟨z1, z2, z3⟩
        · exact .inl z
        · exact .inr ⟨z1, by omega, z3⟩
      · rcases z with z | ⟨z1, z2, z3⟩
        · exact .inl z
        · by_cases y : k = 0
          · rw [y, Nat.add_zero, z3] at q; exact absurd q (nN9 (by omega))
          · exact .inr ⟨z1, by omega, z3⟩
    · obtain ⟨x, x1, x2⟩ := LT_u h1 s1 (w := w) (by omega)
      simp only [s2, nI_clamp (show s < 2 ^ 31 by omega), ck_nI (show s < 1200 by omega) (by decide : (1200 : Nat) < 2 ^ 31)]
      rw [if_pos (nI_pos' (by omega)), e59, x1, bq_s, nI_1]
      have t1 : LT sp (upd (M.1 61) s x) (fun v s => tcO (M0.1 41) w v s ∨ v = w ∧ ∃ k', k' < k + 1 ∧ M0.1 41 (w * 3 + k') = nI s) ps := LT_c x2 (fun v s' hs => ⟨fun z => by
          rcases z with (z | ⟨z1, k', z2, z3⟩) | ⟨z1, z2⟩
          · exact .inl z
          · exact .inr ⟨z1, k', by omega, z3⟩
          · exact .inr ⟨z1, k, by omega, by rw [z2]; exact s2⟩, fun z => by
          rcases z with z | ⟨z1, k', z2, z3⟩
          · exact .inl (.inl z)
          · by_cases y : k' = k
            · rw [y, s2] at z3
              exact .inr ⟨z1, (nI_inj (by omega) (by omega) z3).symm⟩
            · exact .inl (.inr ⟨z1, k', by omega, z3⟩)⟩)
      by_cases y : k = 0
      · subst y
        obtain ⟨x', y1, y2⟩ := LT_u h2 s1 (w := w) (by omega)
        rw [if_pos (show nI 0 = 0 from rfl), sI_n (by decide), sI_n (by decide), e59, y1, bq_s]
        refine ih (0 + 1) f _ (by omega) (by omega) ⟨fun c a b => by rw [sI_n a, sI_n b]; exact hO.1 c a b, hO.2⟩ (by rw [sI_n (by decide), sI_e]; exact t1) (by
          rw [sI_e, sI_n (by decide)]
          refine LT_c y2 (fun v s' hs => ⟨fun z => ?_, fun z => ?_⟩)
          · rcases z with (z | ⟨z1, z2, z3⟩) | ⟨z1, z2⟩
            · exact .inl z
            · exact .inr ⟨z1, by omega, z3⟩
            · exact .inr ⟨z1, by omega, by rw [z2]; exact s2⟩
          · rcases z with z | ⟨z1, z2, z3⟩
            · exact .inl (.inl z)
            · rw [Nat.add_zero] at s2
              rw [s2] at z3
              exact .inr ⟨z1, (nI_inj (by omega) (by omega) z3).symm⟩)
      · rw [if_neg (show ¬ nI k = 0 from fun z => y (nI_inj (by omega) (by omega) (show nI k = nI 0 from z)))]
        refine ih (k + 1) f _ (by omega) (by omega) ⟨fun c a b => by rw [sI_n b]; exact hO.1 c a b, hO.2⟩ (by rw [sI_e]; exact t1) (by
          rw [sI_n (by decide)]
          exact LT_c h2 (fun v s' hs => ⟨fun z => by
            rcases z with z | ⟨z1, z2, z3⟩
            · exact .inl z
            · exact .inr ⟨z1, by omega, z3⟩, fun z => by
            rcases z with z | ⟨z1, z2, z3⟩
            · exact .inl z
            · exact .inr ⟨z1, by omega, z3⟩⟩))
theorem early (hn : n ≤ 400) (hU : US n sp T (M0.1 41)) {ah : Nat → Nat → Prop} (hps : ∀ v, v < n → M0.1 59 v = nI (ps v) ∧ ps v < n) (hah : ∀ v w, v < n → w < n → (ps w < ps v ↔ ah w v)) (hw : w < n) (h1 : LT sp (M0.1 61) (tcO (M0.1 41) w) ps) (h2 : LT sp (M0.1 60) (wrO (M0.1 41) w) ps) :
    ∃ b, f_X10_isEarly M0 (nI w) = some b ∧ (b = true ↔ ∃ v k, bad ah T v w k) := by
  have hsp := hU.1
  obtain ⟨p1, p2⟩ := hps w hw
  have one : ∀ v, v < w → ∀ k, k < 3 → ∀ j, j < 3 → (oneT T v k w j ↔ ∃ s, s < sp ∧ M0.1 41 (w * 3 + j) = nI s ∧ M0.1 41 (v * 3 + k) = nI s) := fun v hv k hk j hj => hU.2.2 v (by omega) k hk w hw j hj
  have at_t : ∃ x, f_X10_latestAt_t M0 (M0.1 41 (w * 3)) = some x ∧ (nI (ps w) < x ↔ ∃ v, v < w ∧ ps w < ps v ∧ ∃ k, k < 3 ∧ oneT T v k w 0) := by
    unfold f_X10_latestAt_t
    rcases hU.2.1 w hw 0 (by omega) with q | ⟨s, s1, s2⟩
    · rw [Nat.add_zero] at q
      rw [q, if_neg (by decide)]
      refine ⟨_, rfl, fun z => absurd (n9lt (by omega)) (Int32.lt_asymm z), fun ⟨v, v1, v2, k, k1, o⟩ => ?_⟩
      obtain ⟨s, _, e, _⟩ := (one v v1 k k1 0 (by omega)).mp o
      rw [Nat.add_zero, q] at e
      exact absurd e.symm (nN9 (by omega))
    · rw [Nat.add_zero] at s2
      rw [s2, if_pos (nI_pos' (by omega)), ck_nI (by omega) (by omega), nI_clamp (by omega)]
      refine ⟨_, rfl, ?_⟩
      rw [(h1 s s1).2 (ps w) (by omega)]
      constructor
      · intro ⟨v, ⟨v1, k, k1, k2⟩, v2⟩
        exact ⟨v, v1, v2, k, k1, (one v v1 k k1 0 (by omega)).mpr ⟨s, s1, s2, k2⟩⟩
      · intro ⟨v, v1, v2, k, k1, o⟩
        obtain ⟨s', t1, t2, t3⟩ := (one v v1 k k1 0 (by omega)).mp o
        rw [Nat.add_zero, s2] at t2
        have := nI_inj (by omega) (by omega) t2
        subst this
        exact ⟨v, ⟨v1, k, k1, t3⟩, v2⟩
  have at_w : ∀ j, j < 3 → ∃ x, f_X10_latestAt_w M0 (M0.1 41 (w * 3 + j)) = some x ∧ (nI (ps w) < x ↔ ∃ v, v < w ∧ ps w < ps v ∧ oneT T v 0 w j) := by
    intro j hj
    unfold f_X10_latestAt_w
    rcases hU.2.1 w hw j hj with q | ⟨s, s1, s2⟩
    · rw [q, if_neg (by decide)]
      refine ⟨_, rfl, fun z => absurd (n9lt (by omega)) (Int32.lt_asymm z), fun ⟨v, v1, v2, o⟩ => ?_⟩
      obtain ⟨s, _, e, _⟩ := (one v v1 0 (by omega) j hj).mp o
      rw [q] at e
      exact absurd e.symm (nN9 (by omega))
    · rw [s2, if_pos (nI_pos' (by omega)), ck_nI (by omega) (by omega), nI_clamp (by omega)]
      refine ⟨_, rfl, ?_⟩
      rw [(h2 s s1).2 (ps w) (by omega)]
      constructor
      · intro ⟨v, ⟨v1, k2⟩, v2⟩
        exact ⟨v, v1, v2, (one v v1 0 (by omega) j hj).mpr ⟨s, s1, s2, k2⟩⟩
      · intro ⟨v, v1, v2, o⟩
        obtain ⟨s', t1, t2, t3⟩ := (one v v1 0 (by omega) j hj).mp o
        rw [s2] at t2
        have := nI_inj (by omega) (by omega) t2
        subst this
        exact ⟨v, ⟨v1, t3⟩, v2⟩
  have mk : (∃ v k, bad ah T v w k) ↔ ((∃ v, v < w ∧ ps w < ps v ∧ ∃ k, k < 3 ∧ oneT T v k w 0) ∨ (∃ v, v < w ∧ ps w < ps v ∧ oneT T v 0 w 1) ∨ (∃ v, v < w ∧ ps w < ps v ∧ oneT T v 0 w 2)) := by
    constructor
    · intro ⟨v, k, v1, v2, v3, v4⟩
      have lt := (hah v w (by omega) hw).mpr v2
      rcases (show k = 0 ∨ k = 1 ∨ k = 2 by omega) with z | z | z
      · subst z
        rcases v4 with y | y
        · exact .inr (.inl ⟨v, v1, lt, y⟩)
        · exact .inr (.inr ⟨v, v1, lt, y⟩)
      · subst z
        rcases v4 with y | y
        · exact .inl ⟨v, v1, lt, 1, by omega, y⟩
        · exact .inl ⟨v, v1, lt, 2, by omega, y⟩
      · subst z
        exact .inl ⟨v, v1, lt, 0, by omega, v4⟩
    · intro z
      rcases z with ⟨v, v1, v2, k, k1, o⟩ | ⟨v, v1, v2, o⟩ | ⟨v, v1, v2, o⟩
      · have a := (hah v w (by omega) hw).mp v2
        rcases (show k = 0 ∨ k = 1 ∨ k = 2 by omega) with z | z | z
        · subst z; exact ⟨v, 2, v1, a, by omega, o⟩
        · subst z; exact ⟨v, 1, v1, a, by omega, .inl o⟩
        · subst z; exact ⟨v, 1, v1, a, by omega, .inr o⟩
      · exact ⟨v, 0, v1, (hah v w (by omega) hw).mp v2, by omega, .inl o⟩
      · exact ⟨v, 0, v1, (hah v w (by omega) hw).mp v2, by omega, .inr o⟩
  obtain ⟨x, a1, a2⟩ := at_t
  obtain ⟨y, b1, b2⟩ := at_w 1 (by omega)
  obtain ⟨z, c1, c2⟩ := at_w 2 (by omega)
  unfold f_X10_isEarly
  rw [mk, ← a2, ← b2, ← c2, i_n3, i_n1, i_n2, pk_mul, nI_add, nI_add]
  simp only [ck_nI (show w * 3 < 1200 by omega) (by decide : (1200 : Nat) < 2 ^ 31), ck_nI (show w * 3 + 1 < 1200 by omega) (by decide : (1200 : Nat) < 2 ^ 31), ck_nI (show w * 3 + 2 < 1200 by omega) (by decide : (1200 : Nat) < 2 ^ 31), ck_nI (show w < 400 by omega) (by decide : (400 : Nat) < 2 ^ 31), nI_clamp (show w * 3 < 2 ^ 31 by omega), nI_clamp (show w * 3 + 1 < 2 ^ 31 by omega), nI_clamp (show w * 3 + 2 < 2 ^ 31 by omega), nI_clamp (show w < 2 ^ 31 by omega), a1, b1, c1, bq_s, p1]
  by_cases q1 : nI (ps w) < x
  · rw [if_pos q1]; exact ⟨true, rfl, fun _ => .inl q1, fun _ => rfl⟩
  · rw [if_neg q1]
    by_cases q2 : nI (ps w) < y
    · rw [if_pos q2]; exact ⟨true, rfl, fun _ => .inr (.inl q2), fun _ => rfl⟩
    · rw [if_neg q2]
      by_cases q3 : z ≤ nI (ps w)
      · rw [if_pos q3]
        exact ⟨false, rfl, fun d => absurd d (by decide), fun d => by
          rcases d with d | d | d
          · exact absurd d q1
          · exact absurd d q2
          · exact absurd q3 (Int32.not_le.mpr d)⟩
      · rw [if_neg q3]; exact ⟨true, rfl, fun _ => .inr (.inr (Int32.not_le.mp q3)), fun _ => rfl⟩
theorem fpart (hn : n ≤ 400) (hU : US n sp T (M0.1 41)) {ah : Nat → Nat → Prop} (hps : ∀ v, v < n → M0.1 59 v = nI (ps v) ∧ ps v < n) (hah : ∀ v w, v < n → w < n → (ps w < ps v ↔ ah w v)) (hw : w < n) (hb : ∃ v k, bad ah T v w k) :
    ∀ r v f, v + r = w → r < f → (∀ v', v' < v → ∀ k', ¬ bad ah T v' w k') → ∃ v0 k0, f_X10_findPartner_2 f (nI w) (nI v) M0 = some (sI (sI M0 118 0 (nI v0)) 120 0 (nI k0)) ∧ bad ah T v0 w k0 ∧ (∀ v', v' < v0 → ∀ k', ¬ bad ah T v' w k') ∧ ∀ k', k' < k0 → ¬ bad ah T v0 w k' := by
  intro r
  induction r with
  | zero =>
    intro v f hv hf hno
    obtain ⟨v', k', b⟩ := hb
    exact absurd b (hno v' (by have := b.1; omega) k')
  | succ r ih =>
    intro v f hv hf hno
    obtain ⟨f, rfl⟩ : ∃ z, f = z + 1 := ⟨f - 1, by omega⟩
    obtain ⟨x, x1, x2⟩ := lk_eq hn hU (v := v) (w := w) (by omega) hw
    have pv := hps v (by omega)
    have pw := hps w hw
    rw [f_X10_findPartner_2, if_neg (nI_ge (by omega) (by omega)), ck_nI (by omega) (by omega), ck_nI (by omega) (by omega), nI_clamp (by omega), nI_clamp (by omega), pv.1, pw.1, x1, bq_s]
    unfold f_X10_findPartner_36
    have nx : (∀ k, ¬ bad ah T v w k) → ∃ v0 k0, f_X10_findPartner_2 f (nI w) (nI v + 1) M0 = some (sI (sI M0 118 0 (nI v0)) 120 0 (nI k0)) ∧ bad ah T v0 w k0 ∧ (∀ v', v' < v0 → ∀ k', ¬ bad ah T v' w k') ∧ ∀ k', k' < k0 → ¬ bad ah T v0 w k' := by
      intro hk
      rw [nI_1]
      refine ih (v + 1) f (by omega) (by omega) (fun v' hv' k' => ?_)
      by_cases z : v' = v
      · rw [z]; exact hk k'
      · exact hno v' (by omega) k'
    by_cases z : ps v ≤ ps w
    · rw [if_pos (nI_le z (by omega)), if_pos (by decide)]
      exact nx (fun k b => by have := (hah v w (by omega) hw).mpr b.2.1; omega)
    · rw [if_neg (nI_ge (by omega) (by omega))]
      have a := (hah v w (by omega) hw).mp (by omega)
      rcases x2 with ⟨y1, y2⟩ | ⟨k, k1, k2, k3, k4⟩
      · rw [y1, if_pos (by decide)]
        exact nx (fun k b => y2 k b.2.2.1 b.2.2.2)
      · rw [k2, if_neg (nI_pos (by omega))]
        exact ⟨v, k, rfl, ⟨by omega, a, k1, k3⟩, hno, fun k' hk' b => k4 k' hk' b.2.2.2⟩
end
def OnJ (M M' : Mem) : Prop := (∀ c, c ≠ 60 → c ≠ 61 → c ≠ 118 → c ≠ 119 → c ≠ 120 → c ≠ 121 → M'.1 c = M.1 c) ∧ M'.2 = M.2
section
variable {n sp : Nat} {T : Tc} {M0 : Mem} {ps : Nat → Nat} {ah : Nat → Nat → Prop}
theorem ia73 (hn : n ≤ 400) (hU : US n sp T (M0.1 41)) (hps : ∀ v, v < n → M0.1 59 v = nI (ps v) ∧ ps v < n) (hah : ∀ v w, v < n → w < n → (ps w < ps v ↔ ah w v)) (h110 : M0.1 110 0 = nI n) (h119 : M0.1 119 0 = -9) :
    ∀ r w f M, w + r = n → r < f → On9 M0 M → (∀ w', w' < w → ∀ v k, ¬ bad ah T v w' k) → LT sp (M.1 61) (tcO (M0.1 41) w) ps → LT sp (M.1 60) (wrO (M0.1 41) w) ps →
    ∃ b M', f_X10_isAllowed_73 f (nI w) M = some (b, M') ∧ OnJ M0 M' ∧ M'.1 121 0 = bI true ∧ JW n ah T (M'.1 118 0) (M'.1 119 0) (M'.1 120 0) ∧ (b = true ↔ M'.1 119 0 = -9) := by
  intro r
  induction r with
  | zero =>
    intro w f M hw hf hO hno h1 h2
    obtain ⟨f, rfl⟩ : ∃ z, f = z + 1 := ⟨f - 1, by omega⟩
    have : w = n := by omega
    subst this
    have e119 : M.1 119 0 = -9 := by rw [hO.1 119 (by decide) (by decide)]; exact h119
    rw [f_X10_isAllowed_73, hO.1 110 (by decide) (by decide), h110, if_pos (nI_le (by omega) (by omega))]
    unfold f_X10_isAllowed_118 f_X10_isAllowed_133
    rw [e119, if_pos (by decide), sI_n (by decide), e119, if_neg (by decide)]
    refine ⟨true, _, rfl, ⟨fun c a b _ _ _ d => by rw [sI_n d]; exact hO.1 c a b, hO.2⟩, by rw [sI_e, pk_us], .inl ⟨by rw [sI_n (by decide)]; exact e119, hno⟩, ?_⟩
    rw [sI_n (by decide)]
    exact ⟨fun _ => e119, fun _ => rfl⟩
  | succ r ih =>
    intro w f M hw hf hO hno h1 h2
    obtain ⟨f, rfl⟩ : ∃ z, f = z + 2 := ⟨f - 2, by omega⟩
    have e119 : M.1 119 0 = -9 := by rw [hO.1 119 (by decide) (by decide)]; exact h119
    have e41 : M.1 41 = M0.1 41 := hO.1 41 (by decide) (by decide)
    have e59 : M.1 59 = M0.1 59 := hO.1 59 (by decide) (by decide)
    have hU1 : US n sp T (M.1 41) := by rw [e41]; exact hU
    obtain ⟨b, b1, b2⟩ := early (M0 := M) (w := w) (ps := ps) hn hU1 (ah := ah) (by rw [e59]; exact hps) hah (by omega) (by rw [e41]; exact h1) (by rw [e41]; exact h2)
    rw [f_X10_isAllowed_73, hO.1 110 (by decide) (by decide), h110, if_neg (nI_ge (by omega) (by omega)), e119, if_neg (by decide), b1, bq_s, nI_1]
    cases b with
    | true =>
      have hb := b2.mp rfl
      rw [bT]
      have go : f_X10_isAllowed_73 (f + 1) (nI (w + 1)) (sI M 119 0 (nI w)) = f_X10_isAllowed_118 (sI M 119 0 (nI w)) := by
        rw [f_X10_isAllowed_73, sI_n (by decide), sI_e, pk_us]
        by_cases q : (M.1 110 0) ≤ nI (w + 1)
        · rw [if_pos q]
        · rw [if_neg q, if_pos (nI_pos' (by omega))]
      obtain ⟨v0, k0, p1, p2, p3, p4⟩ := fpart (M0 := sI M 119 0 (nI w)) (w := w) (ps := ps) hn (by rw [sI_n (by decide)]; exact hU1) (ah := ah) (by rw [sI_n (by decide), e59]; exact hps) hah (by omega) hb w 0 100000 (by omega) (by omega) (fun v' hv' => absurd hv' (by omega))
      rw [go]
      unfold f_X10_isAllowed_118 f_X10_isAllowed_133 f_X10_findPartner
      rw [sI_e, pk_us, if_neg (nI_pos (by omega)), i_n0, p1, bm_s, sI_n (by decide), sI_n (by decide), sI_n (by decide), sI_e, pk_us, if_pos (nI_le (by omega) (by omega))]
      refine ⟨false, _, rfl, ⟨fun c a b x y z d => by rw [sI_n d, sI_n z, sI_n x, sI_n y]; exact hO.1 c a b, hO.2⟩, by rw [sI_e, pk_us], .inr ⟨w, v0, k0, by omega, ?_, ?_, ?_, p2, hno, p3, p4⟩, ?_⟩
      · rw [sI_n (by decide), sI_n (by decide), sI_n (by decide), sI_e, pk_us]
      · rw [sI_n (by decide), sI_n (by decide), sI_e, pk_us]
      · rw [sI_n (by decide), sI_e, pk_us]
      · rw [sI_n (by decide), sI_n (by decide), sI_n (by decide), sI_e, pk_us]
        exact ⟨fun z => absurd z (by decide), fun z => absurd z (nN9 (by omega))⟩
    | false =>
      have nb : ∀ v k, ¬ bad ah T v w k := fun v k z => absurd (b2.mpr ⟨v, k, z⟩) (by decide)
      obtain ⟨M1, m1, m2, m3, m4⟩ := rem2 (M0 := M) (w := w) (ps := ps) hn hU1 (by omega) (by rw [e59]; exact (hps w (by omega)).1) (hps w (by omega)).2 3 0 100000 M (by omega) (by omega) ⟨fun _ _ _ => rfl, rfl⟩ (by
        rw [e41]
        exact LT_c h1 (fun v s hs => ⟨fun z => .inl z, fun z => by
          rcases z with z | ⟨_, k', y, _⟩
          · exact z
          · omega⟩)) (by
        rw [e41]
        exact LT_c h2 (fun v s hs => ⟨fun z => .inl z, fun z => by
          rcases z with z | ⟨_, y, _⟩
          · exact z
          · omega⟩))
      unfold f_X10_remember
      rw [bF, i_n0, m1, bm_s]
      rw [e41] at m3 m4
      exact ih (w + 1) (f + 1) M1 (by omega) (by omega) ⟨fun c a b => (m2.1 c a b).trans (hO.1 c a b), m2.2.trans hO.2⟩ (fun w' hw' => by
        by_cases z : w' = w
        · rw [z]; exact nb
        · exact hno w' (by omega)) m3 m4
/-- the class judges -/
theorem judge_c (hn : n ≤ 400) (hl : Lin ah) (hU : US n sp T (M0.1 41)) (h114 : M0.1 114 0 = nI sp) (hQ : QW n ah (M0.1 57) (M0.1 59)) (h110 : M0.1 110 0 = nI n) :
    ∃ b M', cf 0 ((sI M0 119 0 (-9)).1 114 0) 1200 (cf 0 ((fI (sI M0 119 0 (-9)) 60 (0 : Int32).toNatClampNeg ((sI M0 119 0 (-9)).1 114 0).toNatClampNeg (-9)).1 114 0) 1200 (f_X10_isAllowed_73 100000 0 (fI (fI (sI M0 119 0 (-9)) 60 (0 : Int32).toNatClampNeg ((sI M0 119 0 (-9)).1 114 0).toNatClampNeg (-9)) 61 (0 : Int32).toNatClampNeg ((fI (sI M0 119 0 (-9)) 60 (0 : Int32).toNatClampNeg ((sI M0 119 0 (-9)).1 114 0).toNatClampNeg (-9)).1 114 0).toNatClampNeg (-9)))) = some (b, M') ∧ OnJ M0 M' ∧ M'.1 121 0 = bI true ∧ JW n ah T (M'.1 118 0) (M'.1 119 0) (M'.1 120 0) ∧ (b = true ↔ M'.1 119 0 = -9) := by
  have hsp := hU.1
  have e0 : (0 : Int32).toNatClampNeg = 0 := by decide
  rw [fI_n (by decide), sI_n (by decide), h114, e0, nI_clamp (by omega), i_n0, cf_nI (by omega) hsp (by decide), cf_nI (by omega) hsp (by decide)]
  obtain ⟨b, M', r1, r2, r3, r4, r5⟩ := ia73 (M0 := fI (fI (sI M0 119 0 (-9)) 60 0 sp (-9)) 61 0 sp (-9)) (ps := fun v => cN_ (M0.1 59 v)) (ah := ah) (sp := sp) (T := T) hn (by rw [fI_n (by decide), fI_n (by decide), sI_n (by decide)]; exact hU) (fun v hv => by rw [fI_n (by decide), fI_n (by decide), sI_n (by decide)]; exact ⟨(hQ.2.1 v hv).1, (hQ.2.1 v hv).2.1⟩) (fun v w hv hw => QW_pos hn hl hQ hv hw) (by rw [fI_n (by decide), fI_n (by decide), sI_n (by decide)]; exact h110) (by rw [fI_n (by decide), fI_n (by decide), sI_e, pk_us]) n 0 100000 _ (by omega) (by omega) ⟨fun _ _ _ => rfl, rfl⟩ (fun w' hw' => absurd hw' (by omega)) (fun s hs => by
      rw [fI_e, fl_in ⟨by omega, hs⟩]
      exact ⟨.inl rfl, fun q hq => ⟨fun z => absurd (n9lt (by omega)) (Int32.lt_asymm z), fun ⟨v, z, _⟩ => absurd z.1 (by omega)⟩⟩) (fun s hs => by
      rw [fI_n (by decide), fI_e, fl_in ⟨by omega, hs⟩]
      exact ⟨.inl rfl, fun q hq => ⟨fun z => absurd (n9lt (by omega)) (Int32.lt_asymm z), fun ⟨v, z, _⟩ => absurd z.1 (by omega)⟩⟩)
  refine ⟨b, M', r1, ⟨fun c x1 x2 x3 x4 x5 x6 => ?_, r2.2⟩, r3, r4, r5⟩
  rw [r2.1 c x1 x2 x3 x4 x5 x6, fI_n x2, fI_n x1, sI_n x4]
end
section
variable {M : Mem} {σ : Ws} {T : Tc} {ah : Nat → Nat → Prop}
def least (n : Nat) (ah : Nat → Nat → Prop) (T : Tc) (w v k : Nat) : Prop := w < n ∧ bad ah T v w k ∧ (∀ w', w' < w → ∀ v' k', ¬ bad ah T v' w' k') ∧ (∀ v', v' < v → ∀ k', ¬ bad ah T v' w k') ∧ ∀ k', k' < k → ¬ bad ah T v w k'
theorem least_un {n w v k w' v' k' : Nat} (h : least n ah T w v k) (g : least n ah T w' v' k') : w = w' ∧ v = v' ∧ k = k' := by
  obtain ⟨h1, h2, h3, h4, h5⟩ := h
  obtain ⟨g1, g2, g3, g4, g5⟩ := g
  have e1 : w = w' := by
    rcases Nat.lt_trichotomy w w' with z | z | z
    · exact absurd h2 (g3 w z v k)
    · exact z
    · exact absurd g2 (h3 w' z v' k')
  subst e1
  have e2 : v = v' := by
    rcases Nat.lt_trichotomy v v' with z | z | z
    · exact absurd h2 (g4 v z k)
    · exact z
    · exact absurd g2 (h4 v' z k')
  subst e2
  refine ⟨rfl, rfl, ?_⟩
  rcases Nat.lt_trichotomy k k' with z | z | z
  · exact absurd h2 (g5 k z)
  · exact z
  · exact absurd g2 (h5 k' z)
def whyM (M : Mem) (v w k : Nat) : Mem := sI (sI (sI M 110 0 (nI v)) 111 0 (nI w)) 112 0 (nI k)
theorem ra27 {k20 : Int32 → Int32 → Mem → Option (Bool × Mem)} (hVM : VM σ M) (hN : wN σ ≤ 400) (hk : ∀ v, v < wN σ → wA σ v < 40) (hT : TM σ T M) (hQ : QW (wN σ) ah (M.1 38) (M.1 39)) (hl : Lin ah) {v w : Nat} (hvw : v < w) (hw : w < wN σ) :
    ∀ r k f, k + r = 3 → r < f → (∀ k', k' < k → ¬ bad ah T v w k') → (∃ k0, f_X12_isAllowed_27 k20 f (nI w) (nI v) (nI k) M = some (false, whyM M v w k0) ∧ bad ah T v w k0 ∧ ∀ k', k' < k0 → ¬ bad ah T v w k') ∨ (f_X12_isAllowed_27 k20 f (nI w) (nI v) (nI k) M = k20 (nI w) (nI (v + 1)) M ∧ ∀ k', ¬ bad ah T v w k') := by
  intro r
  induction r with
  | zero =>
    intro k f hr hf hno
    obtain ⟨f, rfl⟩ : ∃ z, f = z + 1 := ⟨f - 1, by omega⟩
    rw [f_X12_isAllowed_27, i_n3, if_pos (nI_le (by omega) (by omega)), nI_1]
    exact .inr ⟨rfl, fun k' b => hno k' (by have := b.2.2.1; omega) b⟩
  | succ r ih =>
    intro k f hr hf hno
    obtain ⟨f, rfl⟩ : ∃ z, f = z + 1 := ⟨f - 1, by omega⟩
    have pv := hQ.2.1 v (by omega)
    have pw := hQ.2.1 w hw
    have ps := QW_pos hN hl hQ (v := v) (w := w) (by omega) hw
    rw [f_X12_isAllowed_27, i_n3, if_neg (nI_ge (by omega) (by omega)), ck_nI (by omega) (by omega), ck_nI (by omega) (by omega), nI_clamp (by omega), nI_clamp (by omega), nI_1, nI_1]
    by_cases z : cN_ (M.1 39 v) ≤ cN_ (M.1 39 w)
    · rw [if_pos (by rw [pv.1, pw.1]; exact nI_le z (by omega))]
      exact .inr ⟨rfl, fun k' b => by have := ps.mpr b.2.1; omega⟩
    · rw [if_neg (by rw [pv.1, pw.1]; exact nI_ge (by omega) (by omega))]
      have a := ps.mp (by omega)
      obtain ⟨x, x1, x2⟩ := need_m hVM hN hk hT (v := v) (w := w) (k := k) (by omega) hw (by omega)
      rw [x1, bq_s]
      cases x with
      | true => exact .inl ⟨k, rfl, ⟨hvw, a, by omega, x2.mp rfl⟩, hno⟩
      | false =>
        rw [bF]
        refine ih (k + 1) f (by omega) (by omega) (fun k' hk' b => ?_)
        by_cases y : k' = k
        · rw [y] at b; exact absurd (x2.mpr b.2.2.2) (by decide)
        · exact hno k' (by omega) b
theorem ra20 {k10 : Int32 → Mem → Option (Bool × Mem)} (hVM : VM σ M) (hN : wN σ ≤ 400) (hk : ∀ v, v < wN σ → wA σ v < 40) (hT : TM σ T M) (hQ : QW (wN σ) ah (M.1 38) (M.1 39)) (hl : Lin ah) {w : Nat} (hw : w < wN σ) (hno : ∀ w', w' < w → ∀ v' k', ¬ bad ah T v' w' k') :
    ∀ r v f, v + r = w → r < f → (∀ v', v' < v → ∀ k', ¬ bad ah T v' w k') → (∃ v0 k0, f_X12_isAllowed_20 k10 f (nI w) (nI v) M = some (false, whyM M v0 w k0) ∧ least (wN σ) ah T w v0 k0) ∨ (f_X12_isAllowed_20 k10 f (nI w) (nI v) M = k10 (nI (w + 1)) M ∧ ∀ v' k', ¬ bad ah T v' w k') := by
  intro r
  induction r with
  | zero =>
    intro v f hr hf hv
    obtain ⟨f, rfl⟩ : ∃ z, f = z + 1 := ⟨f - 1, by omega⟩
    rw [f_X12_isAllowed_20, if_pos (nI_le (by omega) (by omega)), nI_1]
    exact .inr ⟨rfl, fun v' k' b => hv v' (by have := b.1; omega) k' b⟩
  | succ r ih =>
    intro v f hr hf hv
    obtain ⟨f, rfl⟩ : ∃ z, f = z + 1 := ⟨f - 1, by omega⟩
    rw [f_X12_isAllowed_20, if_neg (nI_ge (by omega) (by omega)), i_n0]
    rcases ra27 (k20 := f_X12_isAllowed_20 k10 f) hVM hN hk hT hQ hl (v := v) (w := w) (by omega) hw 3 0 100000 (by omega) (by omega) (fun k' hk' => absurd hk' (by omega)) with ⟨k0, q1, q2, q3⟩ | ⟨q1, q2⟩
    · exact .inl ⟨v, k0, q1, hw, q2, hno, hv, q3⟩
    · rw [q1]
      refine ih (v + 1) f (by omega) (by omega) (fun v' hv' => ?_)
      by_cases y : v' = v
      · rw [y]; exact q2
      · exact hv v' (by omega)
theorem ra10 (hVM : VM σ M) (hN : wN σ ≤ 400) (hk : ∀ v, v < wN σ → wA σ v < 40) (hT : TM σ T M) (hQ : QW (wN σ) ah (M.1 38) (M.1 39)) (hl : Lin ah) :
    ∀ r w f, w + r = wN σ → r < f → (∀ w', w' < w → ∀ v' k', ¬ bad ah T v' w' k') → (∃ w0 v0 k0, f_X12_isAllowed_10 f (nI w) M = some (false, whyM M v0 w0 k0) ∧ least (wN σ) ah T w0 v0 k0) ∨ (f_X12_isAllowed_10 f (nI w) M = some (true, M) ∧ ∀ w', w' < wN σ → ∀ v' k', ¬ bad ah T v' w' k') := by
  intro r
  induction r with
  | zero =>
    intro w f hr hf hw
    obtain ⟨f, rfl⟩ : ∃ z, f = z + 1 := ⟨f - 1, by omega⟩
    rw [f_X12_isAllowed_10, hVM.1, if_pos (nI_le (by omega) (by omega))]
    exact .inr ⟨rfl, fun w' hw' => hw w' (by omega)⟩
  | succ r ih =>
    intro w f hr hf hw
    obtain ⟨f, rfl⟩ : ∃ z, f = z + 1 := ⟨f - 1, by omega⟩
    rw [f_X12_isAllowed_10, hVM.1, if_neg (nI_ge (by omega) (by omega)), i_n0]
    rcases ra20 (k10 := f_X12_isAllowed_10 f) hVM hN hk hT hQ hl (w := w) (by omega) hw w 0 100000 (by omega) (by omega) (fun k' hk' => absurd hk' (by omega)) with ⟨v0, k0, q1, q2⟩ | ⟨q1, q2⟩
    · exact .inl ⟨w, v0, k0, q1, q2⟩
    · rw [q1]
      refine ih (w + 1) f (by omega) (by omega) (fun w' hw' => ?_)
      by_cases y : w' = w
      · rw [y]; exact q2
      · exact hw w' (by omega)
end
section
variable {ns nn na nr nk : Nat} {Mc Mm : Mem}
theorem tcM_fr {M M' : Mem} (h : MFr M M') (nn : Nat) : tcM nn M' = tcM nn M := by
  unfold tcM
  rw [MFr_pg h, h.1 2 (by unfold mRl; omega), h.1 4 (by unfold mRl; omega), h.1 11 (by unfold mRl; omega), h.1 12 (by unfold mRl; omega), h.1 13 (by unfold mRl; omega)]
abbrev sg (nn : Nat) (M : Mem) : Ws := wkA (pgM nn M)
abbrev ahM (nn : Nat) (M : Mem) : Nat → Nat → Prop := ahd (M.1 30) (M.1 31) (sg nn M)
abbrev VWc (na nn : Nat) (Mc Mm : Mem) : Prop := VW na (Mc.1 16) (sg nn Mm) (Mc.1 110 0) (Mc.1 35) (Mc.2.1 36)
theorem VWc_of (h : RelN ns nn na nr nk Mc Mm) (h113 : zb (Mc.1 113 0) = true) (h112 : zb (Mc.1 112 0) = false) : VWc na nn Mc Mm := by
  have v := h.2.2.2.2.2.2.2.1 h113
  exact v.2 (by rw [← v.1]; exact h112)
/-- the class: visits, touches and the new order are there -/
theorem ready2 (h : RelN ns nn na nr nk Mc Mm) (h113 : zb (Mc.1 113 0) = true) (h112 : zb (Mc.1 112 0) = false) :
    ∃ Mc1 Mc2, f_X10_arrange Mc = some Mc1 ∧ f_X9_refresh Mc1 = some Mc2 ∧ RelN ns nn na nr nk Mc2 Mm ∧ CFr Mc Mc2 ∧ zb (Mc2.1 113 0) = true ∧ zb (Mc2.1 112 0) = false ∧ zb (Mc2.1 117 0) = true ∧ zb (Mc2.1 115 0) = true ∧ Mc2.1 121 = Mc.1 121 ∧ Mc2.1 31 = Mc.1 31 ∧ Mc2.1 32 = Mc.1 32 := by
  obtain ⟨Mc1, a1, a2, a3, a4, a5⟩ := arranges h h113 h112
  have e3 : zb (Mc1.1 113 0) = true := by rw [a3.1 113 (by decide) (by decide) (by decide) (by decide)]; exact h113
  have e2 : zb (Mc1.1 112 0) = false := by rw [a3.1 112 (by decide) (by decide) (by decide) (by decide)]; exact h112
  obtain ⟨Mc2, b1, b2, b3, b4, b5⟩ := touches a2 e3 e2
  refine ⟨Mc1, Mc2, a1, b1, b2, CFr_t (AFr_C a3) (UFr_C b3), ?_, ?_, ?_, b4, ?_, by rw [b3.1 31 (by decide) (by decide) (by decide) (by decide), a3.1 31 (by decide) (by decide) (by decide) (by decide)], by rw [b3.1 32 (by decide) (by decide) (by decide) (by decide), a3.1 32 (by decide) (by decide) (by decide) (by decide)]⟩
  · rw [b3.1 113 (by decide) (by decide) (by decide) (by decide)]; exact e3
  · rw [b3.1 112 (by decide) (by decide) (by decide) (by decide)]; exact e2
  · rw [b3.1 117 (by decide) (by decide) (by decide) (by decide)]; exact a4
  · rw [b3.1 121 (by decide) (by decide) (by decide) (by decide), a3.1 121 (by decide) (by decide) (by decide) (by decide)]
/-- the reference: touches and the new order are there -/
theorem readyM (h : RelN ns nn na nr nk Mc Mm) (hVM : VM (sg nn Mm) Mm) (hV : VWc na nn Mc Mm) :
    ∃ Mm1 Mm2, f_X12_layOrder Mm = some Mm1 ∧ f_X12_touchAll Mm1 = some Mm2 ∧ RelN ns nn na nr nk Mc Mm2 ∧ MFr Mm Mm2 ∧ VM (sg nn Mm) Mm2 ∧ QW (wN (sg nn Mm)) (ahM nn Mm) (Mm2.1 38) (Mm2.1 39) ∧ TM (sg nn Mm) (tcM nn Mm) Mm2 ∧ (∀ c, c ≠ 38 → c ≠ 39 → Mm2.1 c = Mm.1 c) ∧ Mm2.2.2 = Mm.2.2 := by
  obtain ⟨Mm1, a1, a2, a3, a4, a5, a6, a7, a8⟩ := lays h hVM hV
  have e : sg nn Mm1 = sg nn Mm := by unfold sg; rw [MFr_pg a3]
  obtain ⟨Mm2, b1, b2, b3, b4, b5⟩ := touchM a2 (by unfold sg at e; rw [e]; exact a4) (by unfold sg at e; rw [e]; exact hV)
  refine ⟨Mm1, Mm2, a1, b1, b2, MFr_t a3 (On7_M b3), by show VM (wkA (pgM nn Mm)) Mm2; unfold sg at e; rw [← e]; exact b4, by rw [b3.1]; exact a5, ?_, fun c x y => by rw [b3.1]; exact a6 c x y, b3.2.2.trans a8⟩
  rw [tcM_fr a3] at b5
  unfold sg at e
  show TM (wkA (pgM nn Mm)) (tcM nn Mm) Mm2
  rw [← e]
  exact b5
/-- both judge -/
theorem judges (h : RelN ns nn na nr nk Mc Mm) (h113 : zb (Mc.1 113 0) = true) (h112 : zb (Mc.1 112 0) = false) (hVM : VM (sg nn Mm) Mm) :
    ∃ b Mc1 Mm1, f_X10_isAllowed Mc = some (b, Mc1) ∧ f_X12_isAllowed Mm = some (b, Mm1) ∧ RelN ns nn na nr nk Mc1 Mm1 ∧ CFr Mc Mc1 ∧ MFr Mm Mm1 ∧ zb (Mc1.1 113 0) = true ∧ zb (Mc1.1 112 0) = false ∧ zb (Mc1.1 117 0) = true ∧ zb (Mc1.1 115 0) = true ∧
      VM (sg nn Mm) Mm1 ∧ QW (wN (sg nn Mm)) (ahM nn Mm) (Mm1.1 38) (Mm1.1 39) ∧ TM (sg nn Mm) (tcM nn Mm) Mm1 ∧ (b = false → Mc1.1 118 0 = Mm1.1 110 0 ∧ Mc1.1 119 0 = Mm1.1 111 0 ∧ Mc1.1 120 0 = Mm1.1 112 0) ∧ (Mc1.1 31 = Mc.1 31 ∧ Mc1.1 32 = Mc.1 32 ∧ Mm1.1 34 = Mm.1 34 ∧ Mm1.1 35 = Mm.1 35) := by
  have cls : ∃ b Mc1, f_X10_isAllowed Mc = some (b, Mc1) ∧ RelN ns nn na nr nk Mc1 Mm ∧ CFr Mc Mc1 ∧ zb (Mc1.1 113 0) = true ∧ zb (Mc1.1 112 0) = false ∧ zb (Mc1.1 117 0) = true ∧ zb (Mc1.1 115 0) = true ∧ JW (wN (sg nn Mm)) (ahM nn Mm) (tcM nn Mm) (Mc1.1 118 0) (Mc1.1 119 0) (Mc1.1 120 0) ∧ (b = true ↔ Mc1.1 119 0 = -9) ∧ Mc1.1 31 = Mc.1 31 ∧ Mc1.1 32 = Mc.1 32 := by
    have h8 := h.2.2.2.2.2.2.2
    unfold f_X10_isAllowed
    by_cases q : zb (Mc.1 121 0) = true
    · obtain ⟨j1, j2, j3⟩ := h8.2.2.2.2.1 q
      rw [if_pos q]
      have j3' := j3
      rcases j3 with ⟨j4, _⟩ | ⟨w, v, k, j5, j6, _⟩
      · rw [j4, if_neg (by decide)]
        exact ⟨true, Mc, rfl, h, CFr_r Mc, h113, h112, j1, j2, j3', ⟨fun _ => j4, fun _ => rfl⟩, rfl, rfl⟩
      · have hN := (VWc_of h h113 h112).2.1
        have j5 : w < wN (sg nn Mm) := j5
        have hN : wN (sg nn Mm) ≤ 400 := hN
        rw [j6, if_pos (nI_pos' (by omega))]
        exact ⟨false, Mc, rfl, h, CFr_r Mc, h113, h112, j1, j2, j3', ⟨fun z => absurd z (by decide), fun z => absurd (j6.symm.trans z) (nN9 (by omega))⟩, rfl, rfl⟩
    · rw [if_neg q]
      obtain ⟨Mc1, Mc2, a1, a2, a3, a4, a5, a6, a7, a8, a9, a10, a11⟩ := ready2 h h113 h112
      have g8 := a3.2.2.2.2.2.2.2
      have hV := VWc_of a3 a5 a6
      obtain ⟨sp, u1, u2⟩ := US_of (g8.2.1 a8).2.2
      obtain ⟨b, M', j1, j2, j3, j4, j5⟩ := judge_c (M0 := Mc2) (T := tcM nn Mm) hV.2.1 (Lin_a (Mm.1 30) (Mm.1 31) (sg nn Mm)) u2 u1 (g8.2.2.2.1 a7).2.2 hV.1
      rw [a1, bm_s, a2, bm_s]
      have hF : CFr Mc2 M' := ⟨fun c z => by unfold cRl at z; exact j2.1 c (by omega) (by omega) (by omega) (by omega) (by omega) (by omega), by rw [j2.2], by rw [j2.2], by rw [j2.2]⟩
      have g : ∀ c, c ≠ 60 → c ≠ 61 → c ≠ 118 → c ≠ 119 → c ≠ 120 → c ≠ 121 → M'.1 c = Mc2.1 c := j2.1
      refine ⟨b, M', j1, RelN_fr a3 hF (MFr_r Mm) ?_, CFr_t a4 hF, ?_, ?_, ?_, ?_, j4, j5, by rw [g 31 (by decide) (by decide) (by decide) (by decide) (by decide) (by decide), a10], by rw [g 32 (by decide) (by decide) (by decide) (by decide) (by decide) (by decide), a11]⟩
      · unfold R8'
        rw [g 16 (by decide) (by decide) (by decide) (by decide) (by decide) (by decide), g 11 (by decide) (by decide) (by decide) (by decide) (by decide) (by decide), g 14 (by decide) (by decide) (by decide) (by decide) (by decide) (by decide), g 110 (by decide) (by decide) (by decide) (by decide) (by decide) (by decide), g 112 (by decide) (by decide) (by decide) (by decide) (by decide) (by decide), g 113 (by decide) (by decide) (by decide) (by decide) (by decide) (by decide), g 114 (by decide) (by decide) (by decide) (by decide) (by decide) (by decide), g 115 (by decide) (by decide) (by decide) (by decide) (by decide) (by decide), g 116 (by decide) (by decide) (by decide) (by decide) (by decide) (by decide), g 117 (by decide) (by decide) (by decide) (by decide) (by decide) (by decide), g 122 (by decide) (by decide) (by decide) (by decide) (by decide) (by decide), g 123 (by decide) (by decide) (by decide) (by decide) (by decide) (by decide), g 35 (by decide) (by decide) (by decide) (by decide) (by decide) (by decide), g 41 (by decide) (by decide) (by decide) (by decide) (by decide) (by decide), g 44 (by decide) (by decide) (by decide) (by decide) (by decide) (by decide), g 45 (by decide) (by decide) (by decide) (by decide) (by decide) (by decide), g 46 (by decide) (by decide) (by decide) (by decide) (by decide) (by decide), g 47 (by decide) (by decide) (by decide) (by decide) (by decide) (by decide), g 57 (by decide) (by decide) (by decide) (by decide) (by decide) (by decide), g 59 (by decide) (by decide) (by decide) (by decide) (by decide) (by decide), g 62 (by decide) (by decide) (by decide) (by decide) (by decide) (by decide), j2.2]
        exact ⟨g8.1, g8.2.1, g8.2.2.1, g8.2.2.2.1, fun _ => ⟨a7, a8, j4⟩, g8.2.2.2.2.2⟩
      · rw [g 113 (by decide) (by decide) (by decide) (by decide) (by decide) (by decide)]; exact a5
      · rw [g 112 (by decide) (by decide) (by decide) (by decide) (by decide) (by decide)]; exact a6
      · rw [g 117 (by decide) (by decide) (by decide) (by decide) (by decide) (by decide)]; exact a7
      · rw [g 115 (by decide) (by decide) (by decide) (by decide) (by decide) (by decide)]; exact a8
  obtain ⟨b, Mc1, c1, c2, c3, c4, c5, c6, c7, c8, c9, c10, c11⟩ := cls
  have hV := VWc_of c2 c4 c5
  obtain ⟨Mm1, Mm2, d1, d2, d3, d4, d5, d6, d7, d8, d9⟩ := readyM c2 hVM hV
  have hN : wN (sg nn Mm) ≤ 400 := hV.2.1
  unfold f_X12_isAllowed
  rw [d1, bm_s, d2, bm_s, i_n0]
  rcases ra10 (M := Mm2) (σ := sg nn Mm) (T := tcM nn Mm) (ah := ahM nn Mm) d5 hN (wk40 h) d7 d6 (Lin_a _ _ _) (wN (sg nn Mm)) 0 100000 (by omega) (by omega) (fun w' hw' => absurd hw' (by omega)) with ⟨w0, v0, k0, q1, q2⟩ | ⟨q1, q2⟩
  · rcases c8 with ⟨_, z⟩ | ⟨w, v, k, z1, z2, z3, z4, z5⟩
    · exact absurd q2.2.1 (z w0 q2.1 v0 k0)
    · have z1 : w < wN (sg nn Mm) := z1
      obtain ⟨e1, e2, e3⟩ := least_un q2 (⟨z1, z5⟩ : least (wN (sg nn Mm)) (ahM nn Mm) (tcM nn Mm) w v k)
      subst e1 e2 e3
      have hb : b = false := by
        cases b with
        | false => rfl
        | true => exact absurd (z2.symm.trans (c9.mp rfl)) (nN9 (by omega))
      subst hb
      have hF : MFr Mm2 (whyM Mm2 v0 w0 k0) := ⟨fun c z => by unfold mRl at z; unfold whyM; rw [sI_n (by omega), sI_n (by omega), sI_n (by omega)], rfl, rfl⟩
      refine ⟨false, Mc1, _, c1, q1, RelN_fr d3 (CFr_r Mc1) hF (R8_m d3.2.2.2.2.2.2.2 hF), c3, MFr_t d4 hF, c4, c5, c6, c7, ?_, ?_, ?_, fun _ => ?_, c10, c11, by unfold whyM; rw [sI_n (by decide), sI_n (by decide), sI_n (by decide), d8 34 (by decide) (by decide)], by unfold whyM; rw [sI_n (by decide), sI_n (by decide), sI_n (by decide), d8 35 (by decide) (by decide)]⟩
      · unfold whyM; exact ⟨by rw [sI_n (by decide), sI_n (by decide), sI_n (by decide)]; exact d5.1, fun v hv => by rw [sI_n (by decide), sI_n (by decide), sI_n (by decide)]; exact d5.2.1 v hv, d5.2.2⟩
      · unfold whyM; rw [sI_n (by decide), sI_n (by decide), sI_n (by decide), sI_n (by decide), sI_n (by decide), sI_n (by decide)]; exact d6
      · unfold whyM; intro v w hv hw; rw [sI_n (by decide), sI_n (by decide), sI_n (by decide)]; exact d7 v w hv hw
      · unfold whyM; rw [sI_n (by decide), sI_n (by decide), sI_e, pk_us, sI_n (by decide), sI_e, pk_us, sI_e, pk_us]; exact ⟨z3, z2, z4⟩
  · rcases c8 with ⟨z, _⟩ | ⟨w, v, k, z1, z2, z3, z4, z5, _⟩
    · have hb : b = true := c9.mpr z
      subst hb
      exact ⟨true, Mc1, _, c1, q1, d3, c3, d4, c4, c5, c6, c7, d5, d6, d7, fun z => absurd z (by decide), c10, c11, d8 34 (by decide) (by decide), d8 35 (by decide) (by decide)⟩
    · exact absurd z5 (q2 w z1 v k)
end
theorem sim_allowed : Sim_allowed Rel := by
  intro Mc Mm ⟨ns, nn, na, nr, nk, h⟩
  unfold f_X11_allowed f_X12_allowed
  obtain ⟨Mc1, Mm1, c1, m1, hR, hcF, hmF, hv⟩ := walks h
  rw [c1, m1, bd_s, bd_s]
  cases es : wS (wkA (pgM nn Mm)) with
  | true => exact same_go hR _
  | false =>
    obtain ⟨v1, v2, v3, v4⟩ := hv es
    rw [← MFr_pg hmF nn] at v1 v4
    obtain ⟨b, Mc2, Mm2, x1, x2, x3, _⟩ := judges hR v2 v3 v1
    rw [bF, bF, x1, x2, bd_s, bd_s]
    cases b with
    | true => exact same_go x3 _
    | false => exact same_go x3 _
theorem sim_why : Sim_why Rel := by
  intro Mc Mm y0 ⟨ns, nn, na, nr, nk, h⟩
  unfold f_X11_why f_X12_why
  rw [in_w 0 2, wi_n y0 (b := 2) (m := 2) (n := 3) rfl rfl (by decide)]
  cases g : inN y0 3 with
  | false => exact same_go h _
  | true =>
    obtain ⟨d, hd, rfl⟩ := inN_t g
    obtain ⟨Mc1, Mm1, c1, m1, hR, hcF, hmF, hv⟩ := walks h
    simp only [bq_s, bT, if_true, c1, m1, bd_s]
    cases es : wS (wkA (pgM nn Mm)) with
    | true => exact same_go hR _
    | false =>
      obtain ⟨v1, v2, v3, v4⟩ := hv es
      rw [← MFr_pg hmF nn] at v1 v4
      obtain ⟨b, Mc2, Mm2, x1, x2, x3, x4, x5, x6, x7, x8, x9, x10, x11, x12, x13, _⟩ := judges hR v2 v3 v1
      rw [bF, bF, x1, x2, bd_s, bd_s]
      cases b with
      | true => exact same_go x3 _
      | false =>
        obtain ⟨e1, e2, e3⟩ := x13 rfl
        rw [bF, bF]
        rcases (show d = 0 ∨ d = 1 ∨ d = 2 by omega) with z | z | z
        · subst z
          rw [if_neg (by decide), if_pos (by decide), if_pos (by decide), e1]; exact same_go x3 _
        · subst z
          rw [if_neg (by decide), if_neg (by decide), if_neg (by decide), if_pos (by decide), e2]; exact same_go x3 _
        · subst z
          rw [if_pos (by decide), if_neg (by decide), if_neg (by decide), e3]; exact same_go x3 _
