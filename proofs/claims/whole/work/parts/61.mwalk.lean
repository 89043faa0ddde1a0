/-! the pure half: the reference's walk is the walk -/
def Tb : Nat → Nat
  | 0 => 0
  | f + 1 => 200000 * (Tb f + 2)
def PostM (B e e' n : Nat) (x : Int32) (M0 M : Mem) (σ' : Ws) : Prop := ∃ (M' : Mem) (K : Nat), K ≤ B ∧ Rn K e M e' M' ∧ WMr σ' M' ∧ FrM M0 M' ∧ (∀ i, i ≤ e' → M'.1 25 i = M.1 25 i ∧ M'.2.1 27 i = M.2.1 27 i) ∧ (∀ i, i < e' → M'.1 26 i = M.1 26 i) ∧ (wS σ' = false → M'.1 26 e' = x)
section
variable {ns n : Nat} {M0 : Mem} {P : Pg}
theorem mw_lp {f B D k d : Nat} {fr to : Int64} (hP : P = (n, M0.1 2, M0.1 4, M0.1 6, M0.1 7, M0.1 8, M0.1 9, M0.1 10)) (h102 : M0.1 102 0 = nI n) (hn : n ≤ 40) (hT : TW ns P.1 (pKd P) (pPa P) (pLp P) (pFi P) (pSe P)) (hk : k < n) (hkl : M0.1 6 k = 0 ∨ M0.1 6 k = 1) (hd : M0.1 8 k = nI d) (hd4 : d < 4) (hD : D + 1 < 41)
    (hw : ∀ M σ, wS σ = false → WM σ M → FrM M0 M → M.1 25 (D + 1) = nI k → M.1 26 (D + 1) = nI (nx (M0.1 7) (nI k) n 0) → Zw (d + 1) σ → PostM B (D + 1) (D + 1) n (nI n) M0 M (wkW P f (nI k) σ)) :
    ∀ m i M σ, i + 1 + m = 4001 → i + 1 ≤ wT σ → wS σ = false → WM σ M → FrM M0 M → M.1 25 (D + 1) = nI k → M.1 26 (D + 1) = nI (nx (M0.1 7) (nI k) n 0) → M.2.1 27 (D + 1) = to → wH σ d = fr + lN i → Zw (d + 1) σ →
      PostM ((m + 1) * (B + 1)) (D + 1) D n (M.1 26 D) M0 M (clsW P k (wkLp P (fun k => wkW P f (nI k)) k fr to m (i + 1) (wkW P f (nI k) σ))) := by
  have eP : P.1 = n := by rw [hP]
  have eL : cN_ (pLp P k) = d := by rw [hP]; show cN_ (M0.1 8 k) = d; rw [hd]; exact nI_clamp (by omega)
  have eK : pKd P k = M0.1 6 k := by rw [hP]
  intro m
  induction m with
  | zero =>
    intro i M σ hi hT' hs h hF h25 h26 h27 hh hz
    obtain ⟨M1, K1, a1, a2, a3, a4, a5, a6, a7⟩ := hw M σ hs h hF h25 h26 hz
    rcases a3 with ⟨b1, b2⟩ | ⟨b1, b2⟩
    · rw [wkLp_sp b1]
      exact ⟨M1, K1, by omega, Rn_spent a2 (by omega) (by omega) b2, .inl ⟨b1, b2⟩, a4, fun i hi => a5 i (by omega), fun i hi => a6 i (by omega), fun z => absurd (b1.symm.trans z) (by decide)⟩
    · have t1 := wkW_T (P := P) f (nI k) σ
      have t2 := b2.2.2.2.2.2.2.2
      omega
  | succ m ih =>
    intro i M σ hi hT' hs h hF h25 h26 h27 hh hz
    obtain ⟨M1, K1, a1, a2, a3, a4, a5, a6, a7⟩ := hw M σ hs h hF h25 h26 hz
    rcases a3 with ⟨b1, b2⟩ | ⟨b1, b2⟩
    · rw [wkLp_sp b1]
      refine ⟨M1, K1, ?_, Rn_spent a2 (by omega) (by omega) b2, .inl ⟨b1, b2⟩, a4, fun i hi => a5 i (by omega), fun i hi => a6 i (by omega), fun z => absurd (b1.symm.trans z) (by decide)⟩
      rw [Nat.succ_mul]
      have := Nat.zero_le ((m + 1) * (B + 1))
      omega
    · have t1 := wkW_T (P := P) f (nI k) σ
      have hJ : Jw (d + 1) (wH σ) (wkW P f (nI k) σ) := wkW_J hT (by omega) f (nI k) (d + 1) (wH σ) σ (sub_lv hT (by omega) (by omega) (fun _ => by rw [eL]) (fun z => absurd (by rw [← eK] at hkl; exact hkl) z)) ⟨fun _ _ => rfl, hz⟩
      have hv : wH (wkW P f (nI k) σ) d = fr + lN i := by rw [hJ.1 d (by omega), hh]
      generalize hτ : wkW P f (nI k) σ = τ at *
      obtain ⟨c1, c2, c3, c4, c5, c6, c7, c8⟩ := b2
      have e25 : M1.1 25 (D + 1) = nI k := by rw [(a5 (D + 1) (Nat.le_refl _)).1]; exact h25
      have e27 : M1.2.1 27 (D + 1) = to := by rw [(a5 (D + 1) (Nat.le_refl _)).2]; exact h27
      have e102 : M1.1 102 0 = nI n := by rw [a4.1 102 (by decide) (by decide) (by decide) (by decide) (by decide) (by decide)]; exact h102
      have e6 : M1.1 6 k = 0 ∨ M1.1 6 k = 1 := by rw [a4.1 6 (by decide) (by decide) (by decide) (by decide) (by decide) (by decide)]; exact hkl
      have e8 : M1.1 8 k = nI d := by rw [a4.1 8 (by decide) (by decide) (by decide) (by decide) (by decide) (by decide)]; exact hd
      have e7 : M1.1 7 = M0.1 7 := a4.1 7 (by decide) (by decide) (by decide) (by decide) (by decide) (by decide)
      have e5 : M1.2.1 5 d = fr + lN i := by rw [c4 d hd4]; exact hv
      have ev : fr + lN i + 1 = fr + lN (i + 1) := by rw [Int64.add_assoc, lN_1]
      have st := fun N => f58_endL (M := M1) (q := k) (d := d) (T := wT τ) (v := fr + lN i) (to := to) e102 hn hD c3 (a7 b1) e25 hk e6 e8 hd4 c2 c8 e5 e27 N
      rw [ev] at st
      unfold wkLp
      by_cases q1 : to < fr + lN (i + 1)
      · rw [if_pos q1]
        have st' : ∀ N, f_X12_walk_58 (N + 1) (nI (D + 1)) M1 = f_X12_walk_58 N (nI D) (sL (sL M1 5 d (fr + lN (i + 1))) 5 d 0) := fun N => by rw [st N, if_neg (Int64.not_le.mpr q1)]
        refine ⟨_, 1 + K1, ?_, Rn_t a2 (Rn_1 st'), .inr ⟨b1, c1, c2, c3, fun e he => ?_, c5, fun j hj => ?_, c7, c8⟩, FrM_L (FrM_L a4 (by decide)) (by decide), fun i hi => ⟨(a5 i (by omega)).1, ?_⟩, fun i hi => a6 i (by omega), fun _ => a6 D (by omega)⟩
        · rw [Nat.succ_mul]
          have := Nat.zero_le ((m + 1) * (B + 1))
          omega
        · show (sL (sL M1 5 d _) 5 d 0).2.1 5 e = vp_updL (wH τ) (cN_ (pLp P k)) 0 e
          rw [sL_e, sL_e, eL]
          by_cases z : e = d
          · rw [z, pk_uLs, pk_uLs]
          · rw [pk_uLn z, pk_uLn z, pk_uLn z]; exact c4 e he
        · rw [sL_n (by decide), sL_n (by decide)]; exact c6 j hj
        · rw [sL_n (by decide), sL_n (by decide)]; exact (a5 i (by omega)).2
      · rw [if_neg q1, if_neg (by rw [b1]; decide), e7] at *
        have st' : ∀ N, f_X12_walk_58 (N + 1) (nI (D + 1)) M1 = f_X12_walk_58 N (nI (D + 1)) (sI (sI (sI (sL M1 5 d (fr + lN (i + 1))) 107 0 (nI (wT τ + 1))) 108 0 (bI (decide (4000 < wT τ + 1)))) 26 (D + 1) (nI (nx (M0.1 7) (nI k) n 0))) := fun N => by rw [st N, if_pos (Int64.not_lt.mp q1)]
        by_cases q3 : wT τ + 1 ≤ 4000
        · rw [if_pos q3]
          rw [decide_eq_false (show ¬ 4000 < wT τ + 1 by omega)] at st'
          generalize hM2 : sI (sI (sI (sL M1 5 d (fr + lN (i + 1))) 107 0 (nI (wT τ + 1))) 108 0 (bI false)) 26 (D + 1) (nI (nx (M0.1 7) (nI k) n 0)) = M2 at st'
          have g25 : ∀ i, M2.1 25 i = M1.1 25 i := fun i => by rw [← hM2, sI_n (by decide), sI_n (by decide), sI_n (by decide)]; rfl
          have g27 : ∀ i, M2.2.1 27 i = M1.2.1 27 i := fun i => by rw [← hM2, sI_2, sI_2, sI_2, sL_n (by decide)]
          have g26 : ∀ i, i ≤ D → M2.1 26 i = M1.1 26 i := fun i hi => by rw [← hM2, sI_e, pk_un (by omega), sI_n (by decide), sI_n (by decide)]; rfl
          have w2 : WM (wN τ, wA τ, wL τ, vp_updL (wH τ) (cN_ (pLp P k)) (fr + lN (i + 1)), wT τ + 1, wS τ) M2 := by
            rw [← hM2]
            refine WM_I ⟨?_, ?_, ?_, fun e he => ?_, fun v hv => ?_, fun j hj => ?_, c7, q3⟩ (by decide)
            · rw [sI_n (by decide), sI_n (by decide)]; exact c1
            · rw [sI_n (by decide), sI_e, pk_us]
            · rw [sI_e, pk_us]
            · show (sI (sI (sL M1 5 d (fr + lN (i + 1))) 107 0 (nI (wT τ + 1))) 108 0 (bI false)).2.1 5 e = vp_updL (wH τ) (cN_ (pLp P k)) (fr + lN (i + 1)) e
              rw [sI_2, sI_2, sL_e, eL]
              by_cases z : e = d
              · rw [z, pk_uLs, pk_uLs]
              · rw [pk_uLn z, pk_uLn z]; exact c4 e he
            · rw [sI_n (by decide), sI_n (by decide)]; exact c5 v hv
            · rw [sI_2, sI_2, sL_n (by decide)]; exact c6 j hj
          have f2 : FrM M0 M2 := by rw [← hM2]; exact FrM_I (FrM_I (FrM_I (FrM_L a4 (by decide)) (by decide)) (by decide)) (by decide)
          obtain ⟨M3, K3, d1, d2, d3, d4, d5, d6, d7⟩ := ih (i + 1) M2 (wN τ, wA τ, wL τ, vp_updL (wH τ) (cN_ (pLp P k)) (fr + lN (i + 1)), wT τ + 1, wS τ) (by omega) (by show i + 1 + 1 ≤ wT τ + 1; omega) b1 w2 f2 (by rw [g25]; exact e25) (by rw [← hM2, sI_e, pk_us]) (by rw [g27]; exact e27) (by show vp_updL (wH τ) (cN_ (pLp P k)) (fr + lN (i + 1)) d = _; rw [eL, pk_uLs]) (fun e a b => by show vp_updL (wH τ) (cN_ (pLp P k)) (fr + lN (i + 1)) e = 0; rw [eL, pk_uLn (by omega)]; exact hJ.2 e a b)
          refine ⟨M3, K3 + (1 + K1), ?_, Rn_t (Rn_t a2 (Rn_1 st')) d2, d3, d4, fun i hi => ⟨?_, ?_⟩, fun i hi => ?_, fun z => ?_⟩
          · rw [Nat.succ_mul]; omega
          · rw [(d5 i hi).1, g25, (a5 i (by omega)).1]
          · rw [(d5 i hi).2, g27, (a5 i (by omega)).2]
          · rw [d6 i hi, g26 i (by omega), a6 i (by omega)]
          · rw [d7 z, g26 D (Nat.le_refl _), a6 D (by omega)]
        · rw [if_neg q3, wkLp_sp rfl]
          rw [decide_eq_true (show 4000 < wT τ + 1 by omega)] at st'
          refine ⟨_, 1 + K1, ?_, Rn_spent (Rn_t a2 (Rn_1 st')) (by omega) (by omega) (by rw [sI_n (by decide), sI_e, pk_us]), .inl ⟨rfl, by rw [sI_n (by decide), sI_e, pk_us]⟩, FrM_I (FrM_I (FrM_I (FrM_L a4 (by decide)) (by decide)) (by decide)) (by decide), fun i hi => ⟨?_, ?_⟩, fun i hi => ?_, fun z => absurd (show true = false from z) (by decide)⟩
          · rw [Nat.succ_mul]
            have := Nat.zero_le ((m + 1) * (B + 1))
            omega
          · rw [sI_n (by decide), sI_n (by decide), sI_n (by decide)]; exact (a5 i (by omega)).1
          · rw [sI_2, sI_2, sI_2, sL_n (by decide)]; exact (a5 i (by omega)).2
          · rw [sI_e, pk_un (by omega), sI_n (by decide), sI_n (by decide)]; exact a6 i (by omega)
/-- one node -/
theorem mw_nd {f B D k l : Nat} {p : Int32} (hP : P = (n, M0.1 2, M0.1 4, M0.1 6, M0.1 7, M0.1 8, M0.1 9, M0.1 10)) (h102 : M0.1 102 0 = nI n) (hn : n ≤ 40) (hns : ns ≤ 80) (hT : TW ns P.1 (pKd P) (pPa P) (pLp P) (pFi P) (pSe P)) (hk : k < n) (hkl : cN_ (M0.1 8 k) = l) (hDk : D ≤ k)
    (hw : ∀ l', (∀ k', k' < P.1 → pPa P k' = nI k → cN_ (pLp P k') = l') → ∀ M σ, wS σ = false → WM σ M → FrM M0 M → M.1 25 (D + 1) = nI k → M.1 26 (D + 1) = nI (nx (M0.1 7) (nI k) n 0) → Zw l' σ → PostM B (D + 1) (D + 1) n (nI n) M0 M (wkW P f (nI k) σ))
    {M : Mem} {σ : Ws} (hs : wS σ = false) (h : WM σ M) (hF : FrM M0 M) (h25 : M.1 25 D = p) (h26 : M.1 26 D = nI k) (hz : Zw l σ) :
    PostM (4001 * (B + 1) + 3) D D n (nI (nx (M0.1 7) p (n - (k + 1)) (k + 1))) M0 M (wkNd P (fun k => wkW P f (nI k)) k σ) := by
  have eP : P.1 = n := by rw [hP]
  have eK : pKd P k = M0.1 6 k := by rw [hP]
  have eFi : pFi P k = M0.1 9 k := by rw [hP]
  have eSe : pSe P k = M0.1 10 k := by rw [hP]
  have eLp : pLp P k = M0.1 8 k := by rw [hP]
  obtain ⟨t1, t2, ⟨t3, t3', t3''⟩, t4, t5, t6, t7, t8, t9⟩ := hT k (by omega)
  rw [eLp] at t3 t3' t3''
  rw [hkl] at t3 t3' t3''
  have m102 : M.1 102 0 = nI n := by rw [hF.1 102 (by decide) (by decide) (by decide) (by decide) (by decide) (by decide)]; exact h102
  have m6 : M.1 6 = M0.1 6 := hF.1 6 (by decide) (by decide) (by decide) (by decide) (by decide) (by decide)
  have m7 : M.1 7 = M0.1 7 := hF.1 7 (by decide) (by decide) (by decide) (by decide) (by decide) (by decide)
  have m8 : M.1 8 = M0.1 8 := hF.1 8 (by decide) (by decide) (by decide) (by decide) (by decide) (by decide)
  have m9 : M.1 9 = M0.1 9 := hF.1 9 (by decide) (by decide) (by decide) (by decide) (by decide) (by decide)
  have m10 : M.1 10 = M0.1 10 := hF.1 10 (by decide) (by decide) (by decide) (by decide) (by decide) (by decide)
  have m2 : M.1 2 = M0.1 2 := hF.1 2 (by decide) (by decide) (by decide) (by decide) (by decide) (by decide)
  have m4 : M.1 4 = M0.1 4 := hF.1 4 (by decide) (by decide) (by decide) (by decide) (by decide) (by decide)
  have ev : ∀ x s, x = nI s → s < 80 → val (M.1 2) (M.1 4) (M.2.1 5) s = vaW P x σ := by
    intro x s hx hs
    rw [hx, m2, m4, val_h h.2.2.2.1, hP]
    unfold vaW
    rw [cN_n' (by omega)]
  have h108 : M.1 108 0 = bI false := h.2.2.1
  unfold wkNd
  rw [eK, eFi, eSe]
  generalize hnk : nx (M0.1 7) p (n - (k + 1)) (k + 1) = nk
  by_cases k3 : M0.1 6 k = 3
  · rw [if_pos k3]
    have st := fun N => f58_act (M := M) (n := n) (D := D) (k := k) (p := p) m102 hn (by omega) h108 h26 hk h25 (by rw [m6]; exact k3) N
    rw [m7, hnk] at st
    obtain ⟨M', e1, e2, e3, e4, e5, e6⟩ := see_ok (M0 := M0) (M := sI M 26 D (nI nk)) (σ := σ) (k := k) (l := l) (by omega) t3' (by rw [sI_n (by decide), m8, t3]) hz hs (WM_I h (by decide)) (FrM_I hF (by decide))
    refine ⟨M', 1, by omega, Rn_1 (fun N => by rw [st N, e1, bm_s]), e2, e3, fun i hi => ⟨?_, ?_⟩, fun i hi => ?_, fun _ => ?_⟩
    · rw [e4, sI_n (by decide)]
    · rw [e6, sI_2]
    · rw [e5, sI_e, pk_un (by omega)]
    · rw [e5, sI_e, pk_us]
  · rw [if_neg k3]
    obtain ⟨s1, hs1, f1⟩ := t7 (by rw [eK]; exact k3)
    rw [eFi] at f1
    by_cases kl : M0.1 6 k = 0 ∨ M0.1 6 k = 1
    · rw [if_pos kl]
      obtain ⟨s2, hs2, f2⟩ := t8 (by unfold Lq; rw [eK]; exact kl)
      rw [eSe] at f2
      have hl4 : l < 4 := t3'' (by unfold Lq; rw [eK]; exact kl)
      have k2 : M0.1 6 k ≠ 2 := by
        intro z
        rcases kl with y | y <;> rw [y] at z <;> exact absurd z (by decide)
      have st := fun N => f58_loop (M := M) (n := n) (D := D) (k := k) (p := p) (s := s1) (t := s2) (d := l) (T := wT σ) (fr := vaW P (M0.1 9 k) σ) (to := vaW P (M0.1 10 k) σ) m102 hn (by omega) h108 h26 hk h25 (by rw [m6]; exact k3) (by rw [m6]; exact k2) (by rw [m9]; exact f1) (by omega) (by rw [m10]; exact f2) (by omega) (by rw [m8]; exact t3) hl4 h.2.1 h.2.2.2.2.2.2.2 (ev _ s1 f1 (by omega)) (ev _ s2 f2 (by omega)) N
      rw [m7, hnk] at st
      obtain ⟨c1, c2, c3, c4, c5, c6, c7, c8⟩ := h
      generalize hfr : vaW P (M0.1 9 k) σ = fr at *
      generalize hto : vaW P (M0.1 10 k) σ = to at *
      have e0 : fr + lN 0 = fr := by
        have : lN 0 = 0 := rfl
        rw [this, Int64.add_zero]
      unfold wkLp
      rw [e0]
      by_cases q : fr ≤ to
      · rw [if_neg (Int64.not_lt.mpr q), if_neg (by rw [hs]; decide)]
        have st' : ∀ N, f_X12_walk_58 (N + 1) (nI D) M = f_X12_walk_58 N (nI (D + 1)) (sI (sI (sI (sL (sI (sL (sI M 26 D (nI nk)) 27 (D + 1) to) 25 (D + 1) (nI k)) 5 l fr) 107 0 (nI (wT σ + 1))) 108 0 (bI (decide (4000 < wT σ + 1)))) 26 (D + 1) (nI (nx (M0.1 7) (nI k) n 0))) := fun N => by rw [st N, if_pos q]
        have fr2 : ∀ b, FrM M0 (sI (sI (sI (sL (sI (sL (sI M 26 D (nI nk)) 27 (D + 1) to) 25 (D + 1) (nI k)) 5 l fr) 107 0 (nI (wT σ + 1))) 108 0 b) 26 (D + 1) (nI (nx (M0.1 7) (nI k) n 0))) := fun b => FrM_I (FrM_I (FrM_I (FrM_L (FrM_I (FrM_L (FrM_I hF (by decide)) (by decide)) (by decide)) (by decide)) (by decide)) (by decide)) (by decide)
        have g25 : ∀ b i, i ≤ D → (sI (sI (sI (sL (sI (sL (sI M 26 D (nI nk)) 27 (D + 1) to) 25 (D + 1) (nI k)) 5 l fr) 107 0 (nI (wT σ + 1))) 108 0 b) 26 (D + 1) (nI (nx (M0.1 7) (nI k) n 0))).1 25 i = M.1 25 i := fun b i hi => by
          rw [sI_n (by decide), sI_n (by decide), sI_n (by decide), sL_1, sI_e, pk_un (by omega), sL_1, sI_n (by decide)]
        have g27 : ∀ b i, i ≤ D → (sI (sI (sI (sL (sI (sL (sI M 26 D (nI nk)) 27 (D + 1) to) 25 (D + 1) (nI k)) 5 l fr) 107 0 (nI (wT σ + 1))) 108 0 b) 26 (D + 1) (nI (nx (M0.1 7) (nI k) n 0))).2.1 27 i = M.2.1 27 i := fun b i hi => by
          rw [sI_2, sI_2, sI_2, sL_n (by decide), sI_2, sL_e, pk_uLn (by omega), sI_2]
        have g26 : ∀ b i, i < D → (sI (sI (sI (sL (sI (sL (sI M 26 D (nI nk)) 27 (D + 1) to) 25 (D + 1) (nI k)) 5 l fr) 107 0 (nI (wT σ + 1))) 108 0 b) 26 (D + 1) (nI (nx (M0.1 7) (nI k) n 0))).1 26 i = M.1 26 i := fun b i hi => by
          rw [sI_e, pk_un (by omega), sI_n (by decide), sI_n (by decide), sL_1, sI_n (by decide), sL_1, sI_e, pk_un (by omega)]
        have g26' : ∀ b, (sI (sI (sI (sL (sI (sL (sI M 26 D (nI nk)) 27 (D + 1) to) 25 (D + 1) (nI k)) 5 l fr) 107 0 (nI (wT σ + 1))) 108 0 b) 26 (D + 1) (nI (nx (M0.1 7) (nI k) n 0))).1 26 D = nI nk := fun b => by
          rw [sI_e, pk_un (by omega), sI_n (by decide), sI_n (by decide), sL_1, sI_n (by decide), sL_1, sI_e, pk_us]
        by_cases q3 : wT σ + 1 ≤ 4000
        · rw [if_pos q3]
          rw [decide_eq_false (show ¬ 4000 < wT σ + 1 by omega)] at st'
          have w2 : WM (wN σ, wA σ, wL σ, vp_updL (wH σ) (cN_ (pLp P k)) fr, wT σ + 1, wS σ) (sI (sI (sI (sL (sI (sL (sI M 26 D (nI nk)) 27 (D + 1) to) 25 (D + 1) (nI k)) 5 l fr) 107 0 (nI (wT σ + 1))) 108 0 (bI false)) 26 (D + 1) (nI (nx (M0.1 7) (nI k) n 0))) := by
            refine WM_I ⟨?_, ?_, ?_, fun e he => ?_, fun v hv => ?_, fun j hj => ?_, c7, q3⟩ (by decide)
            · rw [sI_n (by decide), sI_n (by decide), sL_1, sI_n (by decide), sL_1, sI_n (by decide)]; exact c1
            · rw [sI_n (by decide), sI_e, pk_us]
            · rw [sI_e, pk_us]
            · show (sI (sI (sL (sI (sL (sI M 26 D (nI nk)) 27 (D + 1) to) 25 (D + 1) (nI k)) 5 l fr) 107 0 (nI (wT σ + 1))) 108 0 (bI false)).2.1 5 e = vp_updL (wH σ) (cN_ (pLp P k)) fr e
              rw [sI_2, sI_2, sL_e, eLp, hkl, sI_2, sL_n (by decide), sI_2]
              by_cases z : e = l
              · rw [z, pk_uLs, pk_uLs]
              · rw [pk_uLn z, pk_uLn z]; exact c4 e he
            · rw [sI_n (by decide), sI_n (by decide), sL_1, sI_n (by decide), sL_1, sI_n (by decide)]; exact c5 v hv
            · rw [sI_2, sI_2, sL_n (by decide), sI_2, sL_n (by decide), sI_2]; exact c6 j hj
          have hlv := sub_lv hT (by omega) (k := k) (l' := l + 1) (by omega) (fun _ => by rw [eLp, hkl]) (fun z => absurd (by unfold Lq; rw [eK]; exact kl) z)
          obtain ⟨M3, K3, d1, d2, d3, d4, d5, d6, d7⟩ := mw_lp (f := f) (B := B) (D := D) (k := k) (d := l) (fr := fr) (to := to) hP h102 hn hT hk kl t3 hl4 (by omega) (hw (l + 1) hlv) 4000 0 _ (wN σ, wA σ, wL σ, vp_updL (wH σ) (cN_ (pLp P k)) fr, wT σ + 1, wS σ) rfl (by show 0 + 1 ≤ wT σ + 1; omega) hs w2 (fr2 _) (by rw [sI_n (by decide), sI_n (by decide), sI_n (by decide), sL_1, sI_e, pk_us]) (by rw [sI_e, pk_us]) (by rw [sI_2, sI_2, sI_2, sL_n (by decide), sI_2, sL_e, pk_uLs]) (by show vp_updL (wH σ) (cN_ (pLp P k)) fr l = _; rw [eLp, hkl, pk_uLs, e0]) (fun e a b => by show vp_updL (wH σ) (cN_ (pLp P k)) fr e = 0; rw [eLp, hkl, pk_uLn (by omega)]; exact hz e (by omega) b)
          refine ⟨M3, K3 + 1, by omega, Rn_t (Rn_1 st') d2, d3, d4, fun i hi => ⟨?_, ?_⟩, fun i hi => ?_, fun z => ?_⟩
          · rw [(d5 i hi).1, g25 _ i hi]
          · rw [(d5 i hi).2, g27 _ i hi]
          · rw [d6 i hi, g26 _ i hi]
          · rw [d7 z, g26']
        · rw [if_neg q3, wkLp_sp rfl]
          rw [decide_eq_true (show 4000 < wT σ + 1 by omega)] at st'
          refine ⟨_, 1, by omega, Rn_spent (Rn_1 st') (by omega) (by omega) (by rw [sI_n (by decide), sI_e, pk_us]), .inl ⟨rfl, by rw [sI_n (by decide), sI_e, pk_us]⟩, fr2 _, fun i hi => ⟨g25 _ i hi, g27 _ i hi⟩, fun i hi => g26 _ i hi, fun z => absurd (show true = false from z) (by decide)⟩
      · rw [if_pos (Int64.not_le.mp q)]
        have st' : ∀ N, f_X12_walk_58 (N + 1) (nI D) M = f_X12_walk_58 N (nI D) (sL (sI (sL (sI (sL (sI M 26 D (nI nk)) 27 (D + 1) to) 25 (D + 1) (nI k)) 5 l fr) 26 (D + 1) (nI n)) 5 l 0) := fun N => by rw [st N, if_neg q]
        refine ⟨_, 1, by omega, Rn_1 st', .inr ⟨hs, ?_, ?_, ?_, fun e he => ?_, fun v hv => ?_, fun j hj => ?_, c7, c8⟩, FrM_L (FrM_I (FrM_L (FrM_I (FrM_L (FrM_I hF (by decide)) (by decide)) (by decide)) (by decide)) (by decide)) (by decide), fun i hi => ⟨?_, ?_⟩, fun i hi => ?_, fun _ => ?_⟩
        · rw [sL_1, sI_n (by decide), sL_1, sI_n (by decide), sL_1, sI_n (by decide)]; exact c1
        · rw [sL_1, sI_n (by decide), sL_1, sI_n (by decide), sL_1, sI_n (by decide)]; exact c2
        · rw [sL_1, sI_n (by decide), sL_1, sI_n (by decide), sL_1, sI_n (by decide)]; exact c3
        · show (sL (sI (sL (sI (sL (sI M 26 D (nI nk)) 27 (D + 1) to) 25 (D + 1) (nI k)) 5 l fr) 26 (D + 1) (nI n)) 5 l 0).2.1 5 e = vp_updL (wH σ) (cN_ (pLp P k)) 0 e
          rw [sL_e, sI_2, sL_e, sI_2, sL_n (by decide), sI_2, eLp, hkl]
          by_cases z : e = l
          · rw [z, pk_uLs, pk_uLs]
          · rw [pk_uLn z, pk_uLn z, pk_uLn z]; exact c4 e he
        · rw [sL_1, sI_n (by decide), sL_1, sI_n (by decide), sL_1, sI_n (by decide)]; exact c5 v hv
        · rw [sL_n (by decide), sI_2, sL_n (by decide), sI_2, sL_n (by decide), sI_2]; exact c6 j hj
        · rw [sL_1, sI_n (by decide), sL_1, sI_e, pk_un (by omega), sL_1, sI_n (by decide)]
        · rw [sL_n (by decide), sI_2, sL_n (by decide), sI_2, sL_e, pk_uLn (by omega), sI_2]
        · rw [sL_1, sI_e, pk_un (by omega), sL_1, sI_n (by decide), sL_1, sI_e, pk_un (by omega)]
        · rw [sL_1, sI_e, pk_un (by omega), sL_1, sI_n (by decide), sL_1, sI_e, pk_us]
    · rw [if_neg kl]
      have k2 : M0.1 6 k = 2 := by
        rw [eK] at t1
        rcases t1 with y | y | y | y
        · exact absurd (.inl y) kl
        · exact absurd (.inr y) kl
        · exact y
        · exact absurd y k3
      obtain ⟨m, hm, f2⟩ := t9 (by rw [eK]; exact k2)
      rw [eSe] at f2
      have st := fun N => f58_test (M := M) (n := n) (D := D) (k := k) (p := p) (s := s1) (m := m) m102 hn (by omega) h108 h26 hk h25 (by rw [m6]; exact k2) (by rw [m9]; exact f1) (by omega) (by rw [m10]; exact f2) hm N
      rw [m7, hnk, ev _ s1 f1 (by omega), ← f2] at st
      by_cases qp : pasW (vaW P (M0.1 9 k) σ) (M0.1 10 k) = true
      · rw [if_pos qp]
        have g102 : (sI (sI M 26 D (nI nk)) 25 (D + 1) (nI k)).1 102 0 = nI n := by rw [sI_n (by decide), sI_n (by decide)]; exact m102
        have g7 : (sI (sI M 26 D (nI nk)) 25 (D + 1) (nI k)).1 7 = M0.1 7 := by rw [sI_n (by decide), sI_n (by decide)]; exact m7
        have st' : ∀ N, f_X12_walk_58 (N + 1) (nI D) M = f_X12_walk_58 N (nI (D + 1)) (sI (sI (sI M 26 D (nI nk)) 25 (D + 1) (nI k)) 26 (D + 1) (nI (nx (M0.1 7) (nI k) n 0))) := fun N => by
          rw [st N, if_pos qp]
          unfold f_X12_walk_174
          rw [nI_1, ck_nI (by omega) (by omega), nI_clamp (by omega), i_n0, nxI_eq g102 hn (by omega), bq_s, g7, ck_nI (by omega) (by omega)]
          rfl
        have hlv := sub_lv hT (by omega) (k := k) (l' := l) (by omega) (fun z => absurd (by unfold Lq at z; rw [eK] at z; exact z) kl) (fun _ => by rw [eLp, hkl])
        obtain ⟨M3, K3, d1, d2, d3, d4, d5, d6, d7⟩ := hw l hlv (sI (sI (sI M 26 D (nI nk)) 25 (D + 1) (nI k)) 26 (D + 1) (nI (nx (M0.1 7) (nI k) n 0))) σ hs (WM_I (WM_I (WM_I h (by decide)) (by decide)) (by decide)) (FrM_I (FrM_I (FrM_I hF (by decide)) (by decide)) (by decide)) (by rw [sI_n (by decide), sI_e, pk_us]) (by rw [sI_e, pk_us]) hz
        have g25 : ∀ i, i ≤ D → M3.1 25 i = M.1 25 i := fun i hi => by rw [(d5 i (by omega)).1, sI_n (by decide), sI_e, pk_un (by omega), sI_n (by decide)]
        have g27 : ∀ i, i ≤ D → M3.2.1 27 i = M.2.1 27 i := fun i hi => by rw [(d5 i (by omega)).2, sI_2, sI_2, sI_2]
        have g26 : ∀ i, i < D → M3.1 26 i = M.1 26 i := fun i hi => by rw [d6 i (by omega), sI_e, pk_un (by omega), sI_n (by decide), sI_e, pk_un (by omega)]
        have g26' : M3.1 26 D = nI nk := by rw [d6 D (by omega), sI_e, pk_un (by omega), sI_n (by decide), sI_e, pk_us]
        rcases d3 with ⟨b1, b2⟩ | ⟨b1, b2⟩
        · exact ⟨M3, K3 + 1, by omega, Rn_spent (Rn_t (Rn_1 st') d2) (by omega) (by omega) b2, .inl ⟨b1, b2⟩, d4, fun i hi => ⟨g25 i hi, g27 i hi⟩, g26, fun _ => g26'⟩
        · have i25 : M3.1 25 (D + 1) = nI k := by rw [(d5 (D + 1) (Nat.le_refl _)).1, sI_n (by decide), sI_e, pk_us]
          have i102 : M3.1 102 0 = nI n := by rw [d4.1 102 (by decide) (by decide) (by decide) (by decide) (by decide) (by decide)]; exact h102
          have i6 : M3.1 6 k = 2 := by rw [d4.1 6 (by decide) (by decide) (by decide) (by decide) (by decide) (by decide)]; exact k2
          have st2 := fun N => f58_endT (M := M3) (n := n) (D := D) (q := k) i102 hn (by omega) b2.2.2.1 (d7 b1) i25 hk i6 N
          exact ⟨M3, 1 + (K3 + 1), by omega, Rn_t (Rn_t (Rn_1 st') d2) (Rn_1 st2), .inr ⟨b1, b2⟩, d4, fun i hi => ⟨g25 i hi, g27 i hi⟩, g26, fun _ => g26'⟩
      · rw [if_neg qp]
        refine ⟨_, 1, by omega, Rn_1 (fun N => by rw [st N, if_neg qp]), .inr ⟨hs, WM_I h (by decide)⟩, FrM_I hF (by decide), fun i hi => ⟨?_, ?_⟩, fun i hi => ?_, fun _ => ?_⟩
        · rw [sI_n (by decide)]
        · rw [sI_2]
        · rw [sI_e, pk_un (by omega)]
        · rw [sI_e, pk_us]
theorem mw_sb {f B D l : Nat} {p : Int32} (hP : P = (n, M0.1 2, M0.1 4, M0.1 6, M0.1 7, M0.1 8, M0.1 9, M0.1 10)) (h102 : M0.1 102 0 = nI n) (hn : n ≤ 40) (hns : ns ≤ 80) (hT : TW ns P.1 (pKd P) (pPa P) (pLp P) (pFi P) (pSe P)) (hD : ∀ k, k < n → M0.1 7 k = p → D ≤ k) (hl : ∀ k, k < n → M0.1 7 k = p → cN_ (M0.1 8 k) = l)
    (hw : ∀ k, k < n → D ≤ k → ∀ l', (∀ k', k' < P.1 → pPa P k' = nI k → cN_ (pLp P k') = l') → ∀ M σ, wS σ = false → WM σ M → FrM M0 M → M.1 25 (D + 1) = nI k → M.1 26 (D + 1) = nI (nx (M0.1 7) (nI k) n 0) → Zw l' σ → PostM B (D + 1) (D + 1) n (nI n) M0 M (wkW P f (nI k) σ)) :
    ∀ m c M σ, n - c ≤ m → c ≤ n → wS σ = false → WM σ M → FrM M0 M → M.1 25 D = p → M.1 26 D = nI (nx (M0.1 7) p (n - c) c) → Zw l σ → PostM (m * (4001 * (B + 1) + 3)) D D n (nI n) M0 M (wkSb P (fun k => wkW P f (nI k)) p m c σ) := by
  have eP : P.1 = n := by rw [hP]
  have ePa : pPa P = M0.1 7 := by rw [hP]
  have eLp : pLp P = M0.1 8 := by rw [hP]
  intro m
  induction m with
  | zero =>
    intro c M σ hm hc hs h hF h25 h26 hz
    have e : c = n := by omega
    subst e
    refine ⟨M, 0, Nat.zero_le _, Rn_r _ _, .inr ⟨hs, h⟩, hF, fun i hi => ⟨rfl, rfl⟩, fun i hi => rfl, fun _ => ?_⟩
    rw [h26, Nat.sub_self]
    rfl
  | succ m ih =>
    intro c M σ hm hc hs h hF h25 h26 hz
    unfold wkSb
    rw [if_neg (by rw [hs]; decide), eP, ePa]
    have hx := nx_spec (M0.1 7) p (n - c) c
    by_cases q2 : nx (M0.1 7) p (n - c) c < n
    · rw [if_pos q2]
      generalize nx (M0.1 7) p (n - c) c = k at *
      have hpk : M0.1 7 k = p := hx.2.2.1 (by omega)
      obtain ⟨M1, K1, a1, a2, a3, a4, a5, a6, a7⟩ := mw_nd (f := f) (B := B) (D := D) (k := k) (l := l) (p := p) hP h102 hn hns hT q2 (hl k q2 hpk) (hD k q2 hpk) (hw k q2 (hD k q2 hpk)) hs h hF h25 h26 hz
      have hJ := wkNd_J hT (by omega) (f := f) (wkW_J hT (by omega) f) (k := k) (l := l) (by omega) (by rw [eLp]; exact hl k q2 hpk) (h0 := wH σ) (σ := σ) ⟨fun _ _ => rfl, hz⟩
      rcases a3 with ⟨b1, b2⟩ | ⟨b1, b2⟩
      · rw [wkSb_sp b1]
        refine ⟨M1, K1, ?_, a2, .inl ⟨b1, b2⟩, a4, a5, a6, fun z => absurd (b1.symm.trans z) (by decide)⟩
        rw [Nat.succ_mul]
        exact Nat.le_trans a1 (Nat.le_add_left _ _)
      · obtain ⟨M2, K2, d1, d2, d3, d4, d5, d6, d7⟩ := ih (k + 1) M1 _ (by omega) (by omega) b1 b2 a4 (by rw [(a5 D (Nat.le_refl _)).1]; exact h25) (a7 b1) hJ.2
        refine ⟨M2, K2 + K1, ?_, Rn_t a2 d2, d3, d4, fun i hi => ⟨?_, ?_⟩, fun i hi => ?_, d7⟩
        · rw [Nat.succ_mul]; exact Nat.add_le_add d1 a1
        · rw [(d5 i hi).1, (a5 i hi).1]
        · rw [(d5 i hi).2, (a5 i hi).2]
        · rw [d6 i hi, a6 i hi]
    · rw [if_neg q2]
      refine ⟨M, 0, Nat.zero_le _, Rn_r _ _, .inr ⟨hs, h⟩, hF, fun i hi => ⟨rfl, rfl⟩, fun i hi => rfl, fun _ => ?_⟩
      rw [h26]
      congr 1
      omega
theorem mw_walk (hP : P = (n, M0.1 2, M0.1 4, M0.1 6, M0.1 7, M0.1 8, M0.1 9, M0.1 10)) (h102 : M0.1 102 0 = nI n) (hn : n ≤ 40) (hns : ns ≤ 80) (hT : TW ns P.1 (pKd P) (pPa P) (pLp P) (pFi P) (pSe P)) :
    ∀ f p D l M σ, f + D = 45 → D ≤ 40 → (∀ k, k < n → M0.1 7 k = p → D ≤ k) → (∀ k, k < n → M0.1 7 k = p → cN_ (M0.1 8 k) = l) → wS σ = false → WM σ M → FrM M0 M → M.1 25 D = p → M.1 26 D = nI (nx (M0.1 7) p n 0) → Zw l σ → PostM (Tb f) D D n (nI n) M0 M (wkW P f p σ) := by
  have eP : P.1 = n := by rw [hP]
  have ePa : pPa P = M0.1 7 := by rw [hP]
  have eLp : pLp P = M0.1 8 := by rw [hP]
  have hb : ∀ t, 40 * (4001 * (t + 1) + 3) ≤ 200000 * (t + 2) := fun t => by omega
  intro f
  induction f with
  | zero => intro p D l M σ h1 h2; omega
  | succ f ih =>
    intro p D l M σ h1 h2 hD hl hs h hF h25 h26 hz
    unfold wkW
    obtain ⟨M', K, a1, a2⟩ := mw_sb (f := f) (B := Tb f) (D := D) (l := l) (p := p) hP h102 hn hns hT hD hl (fun k hk hDk l' hl' M σ hs h hF h25 h26 hz => ih (nI k) (D + 1) l' M σ (by omega) (by omega) (fun k' hk' e' => by
        rcases (hT k' (by omega)).2.1 with z | ⟨z1, z2, z3⟩
        · rw [ePa] at z; rw [z] at e'; exact absurd e'.symm (nN9 (by omega))
        · rw [ePa] at z2
          have : cN_ (M0.1 7 k') = k := by rw [e', cN_n' (by omega)]
          omega) (fun k' hk' e' => by rw [← eLp]; exact hl' k' (by omega) (by rw [ePa]; exact e')) hs h hF h25 h26 hz) 40 0 M σ (by omega) (by omega) hs h hF h25 h26 hz
    refine ⟨M', K, ?_, a2⟩
    exact Nat.le_trans a1 (hb (Tb f))
theorem mw_17 {m : Nat} : ∀ (k fuel : Nat) (M : Mem), k + m = 4 → m < fuel → f_X12_walk_17 fuel (nI k) M = f_X12_walk_17 (fuel - m) (nI 4) (fL M 5 k 4 0) := by
  induction m with
  | zero =>
    intro k fuel M hk hf
    have e : k = 4 := by omega
    subst e
    rw [fL_nil]
    rfl
  | succ m ih =>
    intro k fuel M hk hf
    obtain ⟨f, rfl⟩ : ∃ f, fuel = f + 1 := ⟨fuel - 1, by omega⟩
    rw [f_X12_walk_17, i_n4, if_neg (nI_ge (by omega) (by omega)), ck_nI (by omega) (by omega), nI_clamp (by omega), nI_1, ih (k + 1) f _ (by omega) (by omega), fL_step (by omega), show f + 1 - (m + 1) = f - m by omega]
/-- the whole walk -/
theorem mw_all (hP : P = (n, M0.1 2, M0.1 4, M0.1 6, M0.1 7, M0.1 8, M0.1 9, M0.1 10)) (h102 : M0.1 102 0 = nI n) (hn : n ≤ 40) (hns : ns ≤ 80) (hT : TW ns P.1 (pKd P) (pPa P) (pLp P) (pFi P) (pSe P)) :
    ∃ M', f_X12_walk M0 = some (wS (wkA P), M') ∧ WMr (wkA P) M' ∧ FrM M0 M' := by
  have ePa : pPa P = M0.1 7 := by rw [hP]
  have eLp : pLp P = M0.1 8 := by rw [hP]
  have eP : P.1 = n := by rw [hP]
  unfold f_X12_walk
  rw [i_n0, mw_17 (m := 4) 0 100000 _ rfl (by omega), show 100000 - 4 = 99995 + 1 from rfl, f_X12_walk_17, if_pos (by decide)]
  generalize hM1 : fL (sI (sI (sI M0 106 0 (nI 0)) 107 0 (nI 0)) 108 0 (bI false)) 5 0 4 0 = M1
  have g102 : M1.1 102 0 = nI n := by rw [← hM1, fL_1, sI_n (by decide), sI_n (by decide), sI_n (by decide)]; exact h102
  have g7 : M1.1 7 = M0.1 7 := by rw [← hM1, fL_1, sI_n (by decide), sI_n (by decide), sI_n (by decide)]
  have gF : FrM M0 M1 := by
    rw [← hM1]
    refine ⟨fun c a b d e f g => ?_, fun c a b d => ?_, rfl⟩
    · rw [fL_1, sI_n (by omega), sI_n (by omega), sI_n (by omega)]
    · rw [fL_n (by omega)]; rfl
  have gW : WM wkI M1 := by
    rw [← hM1]
    refine ⟨?_, ?_, ?_, fun d hd => ?_, fun v hv => absurd hv (Nat.not_lt_zero v), fun j hj => absurd hj (Nat.not_lt_zero j), Nat.zero_le _, Nat.zero_le _⟩
    · rw [fL_1, sI_n (by decide), sI_n (by decide), sI_e, pk_us]; rfl
    · rw [fL_1, sI_n (by decide), sI_e, pk_us]; rfl
    · rw [fL_1, sI_e, pk_us]
    · rw [fL_e, fl_in ⟨Nat.zero_le _, hd⟩]; rfl
  have c0 : (0 : Int32).toNatClampNeg = 0 := by decide
  have c0' : (nI 0).toNatClampNeg = 0 := by decide
  have e102 : (sI M1 25 0 (-9)).1 102 0 = nI n := by rw [sI_n (by decide)]; exact g102
  have e7 : (sI M1 25 0 (-9)).1 7 = M0.1 7 := by rw [sI_n (by decide)]; exact g7
  have ck0 : ∀ k : Option (Bool × Mem), ck 0 41 k = k := fun k => ck_nI (i := 0) (by decide) (by decide)
  have en : f_X12_nextIn (sI M1 25 0 (-9)) (-9) 0 = some (nI (nx ((sI M1 25 0 (-9)).1 7) (-9) (n - 0) 0)) := nxI_eq e102 hn (Nat.zero_le n) (-9)
  rw [ck0, c0, en, bq_s, e7, ck0, Nat.sub_zero]
  obtain ⟨M', K, a1, a2, a3, a4, a5, a6, a7⟩ := mw_walk hP h102 hn hns hT 45 (-9) 0 0 (sI (sI M1 25 0 (-9)) 26 0 (nI (nx (M0.1 7) (-9) n 0))) wkI rfl (by omega) (fun k _ _ => Nat.zero_le k) (fun k hk e => by
      have := (hT k (by omega)).2.2.2.1 (by rw [ePa]; exact e)
      rw [eLp] at this; exact this) rfl (WM_I (WM_I gW (by decide)) (by decide)) (FrM_I (FrM_I gF (by decide)) (by decide)) (by rw [sI_n (by decide), sI_e, pk_us]) (by rw [sI_e, pk_us]) (fun d _ _ => rfl)
  have hK : Tb 45 + 2 ≤ wkFuel := by decide +kernel
  have eF : wkFuel = (wkFuel - K - 2) + 1 + 1 + K := by omega
  refine ⟨M', ?_, a3, a4⟩
  show f_X12_walk_58 wkFuel (nI 0) (sI (sI M1 25 0 (-9)) 26 0 (nI (nx (M0.1 7) (-9) n 0))) = some (wS (wkA P), M')
  rw [eF, a2]
  rcases a3 with ⟨b1, b2⟩ | ⟨b1, b2⟩
  · rw [f58_spent (by omega) b2]
    show some (true, M') = some (wS (wkW P 45 (-9) wkI), M')
    rw [b1]
  · have i102 : M'.1 102 0 = nI n := by rw [a4.1 102 (by decide) (by decide) (by decide) (by decide) (by decide) (by decide)]; exact h102
    have i25 : M'.1 25 0 = -9 := by rw [(a5 0 (Nat.le_refl _)).1, sI_n (by decide), sI_e, pk_us]
    rw [show wkFuel - K - 2 + 1 + 1 = (wkFuel - K - 2) + 2 from rfl, f58_top i102 hn b2.2.2.1 (a7 b1) i25]
    show some (false, M') = some (wS (wkW P 45 (-9) wkI), M')
    rw [b1]
end
