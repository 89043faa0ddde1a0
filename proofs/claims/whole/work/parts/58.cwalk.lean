/-! the pure half: the class's walk -/
def FrW (M0 M : Mem) : Prop := (∀ c, c ≠ 35 → c ≠ 110 → c ≠ 111 → c ≠ 112 → M.1 c = M0.1 c) ∧ (∀ c, c ≠ 36 → c ≠ 37 → M.2.1 c = M0.2.1 c) ∧ M.2.2 = M0.2.2
theorem FrW_r (M : Mem) : FrW M M := ⟨fun _ _ _ _ _ => rfl, fun _ _ _ => rfl, rfl⟩
def WCr (ao : Nat → Int32) (σ : Ws) (M : Mem) : Prop :=
  M.1 110 0 = nI (wN σ) ∧ M.1 111 0 = nI (wT σ) ∧ M.1 112 0 = bI (wS σ) ∧ (∀ d, d < 4 → M.2.1 37 d = wH σ d) ∧ (∀ v, v < wN σ → M.1 35 v = ao (wA σ v)) ∧ (∀ j, j < wN σ * 4 → M.2.1 36 j = wL σ j) ∧
  wN σ ≤ 400 ∧ (wS σ = false → wT σ ≤ 4000) ∧ wT σ ≤ 4001
theorem FrW_I {M0 M : Mem} {c k : Nat} {x : Int32} (h : FrW M0 M) (hc : c = 35 ∨ c = 110 ∨ c = 111 ∨ c = 112) : FrW M0 (sI M c k x) :=
  ⟨fun c' a b d e => by rw [sI_n (by omega)]; exact h.1 c' a b d e, h.2.1, h.2.2⟩
theorem FrW_L {M0 M : Mem} {c k : Nat} {x : Int64} (h : FrW M0 M) (hc : c = 36 ∨ c = 37) : FrW M0 (sL M c k x) :=
  ⟨h.1, fun c' a b => by rw [sL_n (by omega)]; exact h.2.1 c' a b, h.2.2⟩
theorem FrW_y {M0 M : Mem} {c a b n : Nat} (h : FrW M0 M) : FrW M0 (yL M c a 36 b n) :=
  ⟨h.1, fun c' a b => by rw [yL_n (by omega)]; exact h.2.1 c' a b, h.2.2⟩
theorem bI_eq {b : Bool} : zb (bI b) = b := zb_b b
theorem add_ok {M0 M : Mem} {ao : Nat → Int32} {σ : Ws} {k : Nat} (h : WCr ao σ M) (hF : FrW M0 M) : ∃ M', f_X0_addVisit M (ao k) = some M' ∧ WCr ao (seeW k σ) M' ∧ FrW M0 M' := by
  obtain ⟨a1, a2, a3, a4, a5, a6, a7, a8, a9⟩ := h
  unfold f_X0_addVisit seeW
  rw [a1]
  by_cases q : wN σ < 400
  · have e1 : (sI M 35 (wN σ) (ao k)).1 110 0 = nI (wN σ) := by rw [sI_n (by decide)]; exact a1
    rw [if_pos (show nI (wN σ) < 400 from nI_lt (b := 400) q (by decide)), if_pos q, nI_clamp (by omega), e1, ck_nI (by omega) (by omega), i_n4, i_n0, pk_mul, ca_nI (by omega) (by omega) (by omega) (by omega), yL_1, e1, nI_1, nI_clamp (by omega), nI_clamp (by omega), nI_clamp (by omega)]
    refine ⟨_, rfl, ⟨?_, ?_, ?_, ?_, ?_, ?_, ?_, ?_, ?_⟩, FrW_I (FrW_y (FrW_I hF (by decide))) (by decide)⟩
    · show (sI _ 110 0 _).1 110 0 = _
      rw [sI_e, pk_us]
    · rw [sI_n (by decide), yL_1, sI_n (by decide)]; exact a2
    · rw [sI_n (by decide), yL_1, sI_n (by decide)]; exact a3
    · intro d hd
      show (yL (sI M 35 (wN σ) (ao k)) 37 0 36 (wN σ * 4) 4).2.1 37 d = _
      rw [yL_n (by decide)]; exact a4 d hd
    · intro v hv
      show (sI (yL (sI M 35 (wN σ) (ao k)) 37 0 36 (wN σ * 4) 4) 110 0 _).1 35 v = ao (va_up (wA σ) (wN σ) k v)
      rw [sI_n (by decide), yL_1, sI_e]
      by_cases z : v = wN σ
      · rw [z, pk_us, va_up_self]
      · rw [pk_un z, va_up_ne _ _ z]; exact a5 v (by have : v < wN σ + 1 := hv; omega)
    · intro j hj
      show (yL (sI M 35 (wN σ) (ao k)) 37 0 36 (wN σ * 4) 4).2.1 36 j = va_cpy (wH σ) (wL σ) 0 (wN σ * 4) 4 j
      rw [yL_e, sI_2]
      have hj' : j < (wN σ + 1) * 4 := hj
      by_cases z : wN σ * 4 ≤ j
      · rw [pk_cpy_in z (by omega), pk_cpy_in z (by omega)]; exact a4 _ (by omega)
      · rw [pk_cpy_out (by omega), pk_cpy_out (by omega)]; exact a6 j (by omega)
    · show wN σ + 1 ≤ 400
      omega
    · exact a8
    · exact a9
  · rw [if_neg (show ¬ nI (wN σ) < 400 from nI_nlt (b := 400) (by omega) (by omega)), if_neg q]
    refine ⟨_, rfl, ⟨?_, ?_, ?_, a4, ?_, a6, a7, fun z => absurd (show true = false from z) (by decide), a9⟩, FrW_I hF (by decide)⟩
    · rw [sI_n (by decide)]; exact a1
    · rw [sI_n (by decide)]; exact a2
    · rw [sI_e, pk_us]
    · intro v hv
      rw [sI_n (by decide)]; exact a5 v hv
theorem pos64 {m : Int32} (h : 0 < m) : m.toInt64 ≠ 0 := by
  intro z
  have e := congrArg Int64.toInt z
  rw [Int32.toInt_toInt64] at e
  rw [Int32.lt_iff_toInt_lt] at h
  have e1 : (0 : Int32).toInt = 0 := by decide
  have e2 : (0 : Int64).toInt = 0 := by decide
  omega
section
variable {ns n na : Nat} {M0 : Mem} {P : Pg}
theorem rh_va {M : Mem} {σ : Ws} {x : Int32} {s : Nat} (hP : P = (n, M0.1 2, M0.1 4, M0.1 9, M0.1 10, M0.1 11, M0.1 12, M0.1 13)) (h : WCr (M0.1 17) σ M) (hF : FrW M0 M) (hx : x = nI s) (hs : s < 80) : f_X8_reckon_h M x 0 = some (vaW P x σ) := by
  subst hx hP
  rw [rh_eq hs, hF.1 2 (by decide) (by decide) (by decide) (by decide), hF.1 4 (by decide) (by decide) (by decide) (by decide), val_h h.2.2.2.1]
  unfold vaW
  rw [cN_n' (by omega)]
theorem pas_ok {M : Mem} {σ : Ws} {k : Nat} (hP : P = (n, M0.1 2, M0.1 4, M0.1 9, M0.1 10, M0.1 11, M0.1 12, M0.1 13)) (hn : n ≤ 40) (hs : ns ≤ 80) (hT : TW ns n (M0.1 9) (M0.1 10) (M0.1 11) (M0.1 12) (M0.1 13)) (h : WCr (M0.1 17) σ M) (hF : FrW M0 M) (hk : k < n) (h3 : M0.1 9 k ≠ 3) :
    f_X0_passes M (nI k) = some (pasW (vaW P (pFi P k) σ) (pSe P k)) := by
  obtain ⟨s, hs', e⟩ := (hT k hk).2.2.2.2.2.2.1 h3
  unfold f_X0_passes
  rw [ck_nI (by omega) (by omega), nI_clamp (by omega), hF.1 12 (by decide) (by decide) (by decide) (by decide), hF.1 13 (by decide) (by decide) (by decide) (by decide), rh_va hP h hF e (by omega), bq_s, ck_nI (by omega) (by omega)]
  have e2 : pFi P k = M0.1 12 k := by rw [hP]
  have e3 : pSe P k = M0.1 13 k := by rw [hP]
  rw [e2, e3]
  unfold pasW
  by_cases q : 0 < M0.1 13 k
  · rw [if_pos q, if_pos q, nzL_ok (pos64 q)]
    by_cases z : vaW P (M0.1 12 k) σ - vaW P (M0.1 12 k) σ / (M0.1 13 k).toInt64 * (M0.1 13 k).toInt64 = 0
    · rw [if_pos z, decide_eq_true z]
    · rw [if_neg z, decide_eq_false z]
  · rw [if_neg q, if_neg q]
    by_cases z : vaW P (M0.1 12 k) σ < 0
    · rw [if_pos z, decide_eq_false (fun y => y z)]
    · rw [if_neg z, decide_eq_true z]
theorem tl_ok {wk : Mem → Int32 → Int32 → Option Mem} {go : Nat → Ws → Ws} {k D d : Nat} {fr to : Int64} (hk : k < 40) (hd : d < 4) (hdl : cN_ (pLp P k) = d)
    (hw : ∀ M σ, WCr (M0.1 17) σ M → FrW M0 M → ∃ M', wk M (M0.1 6 k) (nI (D + 1)) = some M' ∧ WCr (M0.1 17) (go k σ) M' ∧ FrW M0 M') :
    ∀ m i fuel M σ, i + m = 4001 → m < fuel → WCr (M0.1 17) σ M → FrW M0 M →
      ∃ M', f_X0_turnLoop_59 wk fuel (nI k) (nI D) (nI d) fr to (nI i) M = some M' ∧ WCr (M0.1 17) (clsW P k (wkLp P go k fr to m i σ)) M' ∧ FrW M0 M' := by
  have hcl : ∀ M σ, WCr (M0.1 17) σ M → FrW M0 M → WCr (M0.1 17) (clsW P k σ) (sL M 37 d 0) ∧ FrW M0 (sL M 37 d 0) := by
    intro M σ ⟨a1, a2, a3, a4, a5, a6, a7, a8, a9⟩ hF
    refine ⟨⟨a1, a2, a3, fun e he => ?_, a5, fun j hj => ?_, a7, a8, a9⟩, FrW_L hF (by decide)⟩
    · show (sL M 37 d 0).2.1 37 e = vp_updL (wH σ) (cN_ (pLp P k)) 0 e
      rw [sL_e, hdl]
      by_cases z : e = d
      · rw [z, pk_uLs, pk_uLs]
      · rw [pk_uLn z, pk_uLn z]; exact a4 e he
    · rw [sL_n (by decide)]; exact a6 j hj
  intro m
  induction m with
  | zero =>
    intro i fuel M σ hi hf h hF
    obtain ⟨f, rfl⟩ : ∃ f, fuel = f + 1 := ⟨fuel - 1, by omega⟩
    have e : i = 4001 := by omega
    subst e
    rw [f_X0_turnLoop_59, if_pos (by decide), ck_nI hd (by omega), nI_clamp (by omega)]
    exact ⟨_, rfl, hcl M σ h hF⟩
  | succ m ih =>
    intro i fuel M σ hi hf h hF
    obtain ⟨f, rfl⟩ : ∃ f, fuel = f + 1 := ⟨fuel - 1, by omega⟩
    rw [f_X0_turnLoop_59, if_neg (show ¬ (4000 : Int32) < nI i from nI_nlt (a := 4000) (b := i) (by omega) (by omega)), nI_l (by omega)]
    unfold wkLp
    by_cases q1 : to < fr + lN i
    · rw [if_pos q1, if_pos q1, ck_nI hd (by omega), nI_clamp (by omega)]
      exact ⟨_, rfl, hcl M σ h hF⟩
    · rw [if_neg q1, if_neg q1, h.2.2.1, zb_b]
      by_cases q2 : wS σ = true
      · rw [if_pos q2, if_pos q2, ck_nI hd (by omega), nI_clamp (by omega)]
        exact ⟨_, rfl, hcl M σ h hF⟩
      · have ht := h.2.2.2.2.2.2.2.1 (by cases z : wS σ with | true => exact absurd z q2 | false => rfl)
        rw [if_neg q2, if_neg q2, sI_e, pk_us, h.2.1, nI_1]
        obtain ⟨a1, a2, a3, a4, a5, a6, a7, a8, a9⟩ := h
        by_cases q3 : wT σ + 1 ≤ 4000
        · rw [if_pos (show nI (wT σ + 1) ≤ 4000 from nI_le (b := 4000) q3 (by omega)), if_pos q3, ck_nI hd (by omega), ck_nI (by omega) (by omega), nI_clamp (by omega), nI_clamp (by omega), sL_1, sI_n (by decide), hF.1 6 (by decide) (by decide) (by decide) (by decide), nI_1]
          have h' : WCr (M0.1 17) (wN σ, wA σ, wL σ, vp_updL (wH σ) (cN_ (pLp P k)) (fr + lN i), wT σ + 1, wS σ) (sL (sI M 111 0 (nI (wT σ + 1))) 37 d (fr + lN i)) := by
            refine ⟨?_, ?_, ?_, fun e he => ?_, fun v hv => ?_, fun j hj => ?_, a7, fun _ => q3, by show wT σ + 1 ≤ 4001; omega⟩
            · rw [sL_1, sI_n (by decide)]; exact a1
            · rw [sL_1, sI_e, pk_us]
            · rw [sL_1, sI_n (by decide)]; exact a3
            · show (sL (sI M 111 0 (nI (wT σ + 1))) 37 d (fr + lN i)).2.1 37 e = vp_updL (wH σ) (cN_ (pLp P k)) (fr + lN i) e
              rw [sL_e, hdl, sI_2]
              by_cases z : e = d
              · rw [z, pk_uLs, pk_uLs]
              · rw [pk_uLn z, pk_uLn z]; exact a4 e he
            · rw [sL_1, sI_n (by decide)]; exact a5 v hv
            · rw [sL_n (by decide), sI_2]; exact a6 j hj
          obtain ⟨M', e1, e2, e3⟩ := hw _ _ h' (FrW_L (FrW_I hF (by decide)) (by decide))
          rw [e1, bm_s, nI_1]
          exact ih (i + 1) f M' _ (by omega) (by omega) e2 e3
        · rw [if_neg (show ¬ nI (wT σ + 1) ≤ 4000 from nI_ge (a := 4000) (b := wT σ + 1) (by omega) (by omega)), if_neg q3, nI_1]
          refine ih (i + 1) f _ _ (by omega) (by omega) ⟨?_, ?_, ?_, a4, fun v hv => ?_, a6, a7, fun z => absurd (show true = false from z) (by decide), by show wT σ + 1 ≤ 4001; omega⟩ (FrW_I (FrW_I hF (by decide)) (by decide))
          · rw [sI_n (by decide), sI_n (by decide)]; exact a1
          · rw [sI_n (by decide), sI_e, pk_us]
          · rw [sI_e, pk_us]
          · rw [sI_n (by decide), sI_n (by decide)]; exact a5 v hv
theorem cv_lt {n k : Nat} (h : k < n) : cv n k = nI k := by unfold cv; rw [if_pos h]
theorem cv_ge {n k : Nat} (h : n ≤ k) : cv n k = -9 := by unfold cv; rw [if_neg (by omega)]
theorem sb_ok {wk : Mem → Int32 → Int32 → Option Mem} {go : Nat → Ws → Ws} {p : Int32} {D : Nat} (hP : P = (n, M0.1 2, M0.1 4, M0.1 9, M0.1 10, M0.1 11, M0.1 12, M0.1 13)) (hn : n ≤ 40) (hs : ns ≤ 80) (hT : TW ns n (M0.1 9) (M0.1 10) (M0.1 11) (M0.1 12) (M0.1 13)) (hL : LW n (M0.1 10) (M0.1 6) (M0.1 7) (M0.1 8))
    (hD : ∀ k, k < n → M0.1 10 k = p → D ≤ k) (hw : ∀ k, k < n → D ≤ k → ∀ M σ, WCr (M0.1 17) σ M → FrW M0 M → ∃ M', wk M (M0.1 6 k) (nI (D + 1)) = some M' ∧ WCr (M0.1 17) (go k σ) M' ∧ FrW M0 M') :
    ∀ m c i fuel M σ, i + m = 40 → m < fuel → c ≤ n → WCr (M0.1 17) σ M → FrW M0 M →
      ∃ M', f_X0_walkB_12 wk fuel (nI D) (cv n (nx (M0.1 10) p (n - c) c)) (nI i) M = some M' ∧ WCr (M0.1 17) (wkSb P go p m c σ) M' ∧ FrW M0 M' := by
  intro m
  induction m with
  | zero =>
    intro c i fuel M σ hi hf hc h hF
    obtain ⟨f, rfl⟩ : ∃ f, fuel = f + 1 := ⟨fuel - 1, by omega⟩
    have e : i = 40 := by omega
    subst e
    rw [f_X0_walkB_12, if_pos (by decide)]
    exact ⟨M, rfl, h, hF⟩
  | succ m ih =>
    intro c i fuel M σ hi hf hc h hF
    obtain ⟨f, rfl⟩ : ∃ f, fuel = f + 1 := ⟨fuel - 1, by omega⟩
    have eP : P.1 = n := by rw [hP]
    have ePa : pPa P = M0.1 10 := by rw [hP]
    obtain ⟨x1, x2, x3, x4⟩ := nx_spec (M0.1 10) p (n - c) c
    rw [f_X0_walkB_12, if_neg (show ¬ (40 : Int32) ≤ nI i from nI_ge (a := i) (b := 40) (by omega) (by omega)), h.2.2.1, zb_b]
    unfold wkSb
    rw [eP, ePa]
    by_cases q2 : nx (M0.1 10) p (n - c) c < n
    · generalize hkk : nx (M0.1 10) p (n - c) c = k at *
      have hpk : M0.1 10 k = p := x3 (by omega)
      rw [cv_lt q2, if_neg (nI_pos (by omega)), if_pos q2]
      by_cases q1 : wS σ = true
      · rw [if_pos q1, if_pos q1]; exact ⟨M, rfl, h, hF⟩
      · rw [if_neg q1, if_neg q1]
        have hnext : ∀ M', WCr (M0.1 17) (wkNd P go k σ) M' → FrW M0 M' → ∃ M'', f_X0_walkB_101 wk (f_X0_walkB_12 wk f) (nI D) (nI k) (nI i) M' = some M'' ∧ WCr (M0.1 17) (wkSb P go p m (k + 1) (wkNd P go k σ)) M'' ∧ FrW M0 M'' := by
          intro M' h' hF'
          unfold f_X0_walkB_101
          rw [ck_nI (by omega) (by omega), nI_clamp (by omega), hF'.1 8 (by decide) (by decide) (by decide) (by decide), hL.2.1 k q2, hpk, nI_1]
          exact ih (k + 1) (i + 1) f M' _ (by omega) (by omega) (by omega) h' hF'
        have hDk : D ≤ k := hD k q2 hpk
        have ek : pKd P k = M0.1 9 k := by rw [hP]
        unfold f_X2_isAct f_X2_isLoop
        simp only [ck40 (show k < 40 by omega)]
        rw [nI_clamp (by omega), hF.1 9 (by decide) (by decide) (by decide) (by decide)]
        by_cases k3 : M0.1 9 k = 3
        · rw [if_pos k3, bq_s, bT, hF.1 17 (by decide) (by decide) (by decide) (by decide)]
          obtain ⟨M', e1, e2, e3⟩ := add_ok (k := k) h hF
          rw [e1, bm_s]
          have : wkNd P go k σ = seeW k σ := by unfold wkNd; rw [ek, if_pos k3]
          exact hnext M' (by rw [this]; exact e2) e3
        · rw [if_neg k3, bq_s, bF]
          by_cases kl : M0.1 9 k = 0 ∨ M0.1 9 k = 1
          · have eb : (if M0.1 9 k = 0 then some true else if M0.1 9 k = 1 then some true else some false) = some true := by
              rcases kl with z | z
              · rw [if_pos z]
              · rw [if_neg (by rw [z]; decide), if_pos z]
            rw [eb, bq_s, bT]
            obtain ⟨s1, hs1, e1⟩ := (hT k q2).2.2.2.2.2.2.1 k3
            obtain ⟨s2, hs2, e2⟩ := (hT k q2).2.2.2.2.2.2.2.1 kl
            obtain ⟨l1, l2, l3⟩ := (hT k q2).2.2.1
            have el : pLp P k = M0.1 11 k := by rw [hP]
            have ef : pFi P k = M0.1 12 k := by rw [hP]
            have es : pSe P k = M0.1 13 k := by rw [hP]
            unfold f_X0_turnLoop
            rw [ck_nI (by omega) (by omega), ck_nI (by omega) (by omega), nI_clamp (by omega), hF.1 12 (by decide) (by decide) (by decide) (by decide), hF.1 13 (by decide) (by decide) (by decide) (by decide), hF.1 11 (by decide) (by decide) (by decide) (by decide), rh_va hP h hF e1 (by omega), bq_s, ck_nI (by omega) (by omega), rh_va hP h hF e2 (by omega), bq_s, l1, i_n0]
            obtain ⟨M', f1, f2, f3⟩ := tl_ok (P := P) (wk := wk) (go := go) (k := k) (D := D) (d := cN_ (M0.1 11 k)) (fr := vaW P (M0.1 12 k) σ) (to := vaW P (M0.1 13 k) σ) (M0 := M0) (by omega) (l3 kl) (by rw [el]) (hw k q2 hDk) 4001 0 100000 M σ (by omega) (by omega) h hF
            rw [f1, bm_s]
            have : wkNd P go k σ = clsW P k (wkLp P go k (vaW P (M0.1 12 k) σ) (vaW P (M0.1 13 k) σ) 4001 0 σ) := by unfold wkNd; rw [ek, if_neg k3, if_pos kl, ef, es]
            exact hnext M' (by rw [this]; exact f2) f3
          · have eb : (if M0.1 9 k = 0 then some true else if M0.1 9 k = 1 then some true else some false) = some false := by
              rw [if_neg (fun z => kl (.inl z)), if_neg (fun z => kl (.inr z))]
            rw [eb, bq_s, bF, pas_ok hP hn hs hT h hF q2 k3, bq_s]
            by_cases qp : pasW (vaW P (pFi P k) σ) (pSe P k) = true
            · rw [if_pos qp, ck_nI (by omega) (by omega), hF.1 6 (by decide) (by decide) (by decide) (by decide), nI_1]
              obtain ⟨M', f1, f2, f3⟩ := hw k q2 hDk M σ h hF
              rw [f1, bm_s]
              have : wkNd P go k σ = go k σ := by unfold wkNd; rw [ek, if_neg k3, if_neg kl, if_pos qp]
              exact hnext M' (by rw [this]; exact f2) f3
            · rw [if_neg qp]
              have : wkNd P go k σ = σ := by unfold wkNd; rw [ek, if_neg k3, if_neg kl, if_neg qp]
              exact hnext M (by rw [this]; exact h) hF
    · rw [cv_ge (by omega), if_pos (by decide), if_neg q2]
      refine ⟨M, rfl, ?_, hF⟩
      by_cases q1 : wS σ = true
      · rw [if_pos q1]; exact h
      · rw [if_neg q1]; exact h
theorem cw_walk (hP : P = (n, M0.1 2, M0.1 4, M0.1 9, M0.1 10, M0.1 11, M0.1 12, M0.1 13)) (hn : n ≤ 40) (hs : ns ≤ 80) (hT : TW ns n (M0.1 9) (M0.1 10) (M0.1 11) (M0.1 12) (M0.1 13)) (hL : LW n (M0.1 10) (M0.1 6) (M0.1 7) (M0.1 8)) :
    ∀ f p D M σ, f + D = 45 → D ≤ 40 → (∀ k, k < n → M0.1 10 k = p → D ≤ k) → WCr (M0.1 17) σ M → FrW M0 M →
      ∃ M', f_X0_walk f M (cv n (nx (M0.1 10) p n 0)) (nI D) = some M' ∧ WCr (M0.1 17) (wkW P f p σ) M' ∧ FrW M0 M' := by
  intro f
  induction f with
  | zero => intro p D M σ h1 h2; omega
  | succ f ih =>
    intro p D M σ h1 h2 hD h hF
    rw [f_X0_walk]
    unfold f_X0_walkB wkW
    rw [if_pos (show nI D ≤ 40 from nI_le (b := 40) h2 (by omega)), i_n0]
    refine sb_ok hP hn hs hT hL hD (fun k hk hDk M σ h hF => ?_) 40 0 0 100000 M σ (by omega) (by omega) (by omega) h hF
    have e : M0.1 6 k = cv n (nx (M0.1 10) (nI k) n 0) := by
      rw [hL.1 k (.inl hk)]
      unfold pv
      rw [if_neg (by omega)]
    rw [e]
    refine ih (nI k) (D + 1) M σ (by omega) (by omega) (fun k' hk' e' => ?_) h hF
    rcases (hT k' hk').2.1 with z | ⟨z1, z2, z3⟩
    · rw [z] at e'; exact absurd e'.symm (nN9 (by omega))
    · have : cN_ (M0.1 10 k') = k := by rw [e', cN_n' (by omega)]
      omega
theorem cw_refresh (hP : P = (n, M0.1 2, M0.1 4, M0.1 9, M0.1 10, M0.1 11, M0.1 12, M0.1 13)) (hn : n ≤ 40) (hs : ns ≤ 80) (hT : TW ns n (M0.1 9) (M0.1 10) (M0.1 11) (M0.1 12) (M0.1 13)) (hL : LW n (M0.1 10) (M0.1 6) (M0.1 7) (M0.1 8)) (h0 : ¬ zb (M0.1 113 0) = true) :
    ∃ M', f_X0_refresh M0 = some (sI M' 113 0 (bI true)) ∧ WCr (M0.1 17) (wkA P) M' ∧ FrW M0 M' := by
  unfold f_X0_refresh
  rw [if_neg h0]
  have e40 : (40 : Int32).toNatClampNeg = 40 := by decide
  have hF : FrW M0 (fL (sI (sI (sI M0 110 0 0) 111 0 0) 112 0 (bI false)) 37 0 4 0) := by
    refine ⟨fun c a b d e => ?_, fun c a b => ?_, rfl⟩
    · rw [fL_1, sI_n (by omega), sI_n (by omega), sI_n (by omega)]
    · rw [fL_n (by omega)]; rfl
  have h : WCr (M0.1 17) wkI (fL (sI (sI (sI M0 110 0 0) 111 0 0) 112 0 (bI false)) 37 0 4 0) := by
    refine ⟨rfl, rfl, rfl, fun d hd => ?_, fun v hv => absurd hv (Nat.not_lt_zero v), fun j hj => absurd hj (Nat.not_lt_zero j), Nat.zero_le _, fun _ => Nat.zero_le _, Nat.zero_le _⟩
    rw [fL_e, fl_in ⟨Nat.zero_le _, hd⟩]; rfl
  have eck : ∀ k : Option Mem, ck 40 41 k = k := fun k => ck_nI (i := 40) (by decide) (by decide)
  rw [eck, e40, hF.1 6 (by decide) (by decide) (by decide) (by decide), hL.1 40 (.inr rfl)]
  have ep : pv 40 = -9 := by unfold pv; rw [if_pos rfl]
  obtain ⟨M', e1, e2, e3⟩ := cw_walk hP hn hs hT hL 45 (-9) 0 _ wkI rfl (by omega) (fun k _ _ => Nat.zero_le k) h hF
  have e1' : f_X0_walk 45 (fL (sI (sI (sI M0 110 0 0) 111 0 0) 112 0 (bI false)) 37 0 4 0) (cv n (nx (M0.1 10) (-9) n 0)) 0 = some M' := e1
  rw [ep, e1', bm_s]
  exact ⟨M', rfl, e2, e3⟩
end
