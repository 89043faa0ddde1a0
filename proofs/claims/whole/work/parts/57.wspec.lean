/-! the pure half: the walk's meaning -/
theorem nx_spec (pa : Nat → Int32) (p : Int32) : ∀ m c, c ≤ nx pa p m c ∧ nx pa p m c ≤ c + m ∧ (nx pa p m c < c + m → pa (nx pa p m c) = p) ∧ ∀ j, c ≤ j → j < nx pa p m c → pa j ≠ p := by
  intro m
  induction m with
  | zero => intro c; exact ⟨Nat.le_refl _, Nat.le_refl _, fun h => absurd h (by unfold nx; omega), fun j h1 h2 => absurd h2 (by unfold nx; omega)⟩
  | succ m ih =>
    intro c
    unfold nx
    by_cases h : pa c = p
    · rw [if_pos h]
      exact ⟨Nat.le_refl _, by omega, fun _ => h, fun j h1 h2 => absurd h2 (by omega)⟩
    · rw [if_neg h]
      obtain ⟨a, b, d, e⟩ := ih (c + 1)
      refine ⟨by omega, by omega, fun q => d (by omega), fun j h1 h2 => ?_⟩
      by_cases z : j = c
      · rw [z]; exact h
      · exact e j (by omega) h2
theorem nx_uniq {pa : Nat → Int32} {p : Int32} {m c k : Nat} (h1 : c ≤ k) (h2 : k ≤ c + m) (h3 : k < c + m → pa k = p) (h4 : ∀ j, c ≤ j → j < k → pa j ≠ p) : nx pa p m c = k := by
  obtain ⟨a, b, d, e⟩ := nx_spec pa p m c
  rcases Nat.lt_trichotomy (nx pa p m c) k with q | q | q
  · exact absurd (d (by omega)) (h4 _ a q)
  · exact q
  · exact absurd (h3 (by omega)) (e k h1 q)
section
variable {P : Pg}
theorem wkLp_ind (I : Ws → Prop) {go : Nat → Ws → Ws} {k : Nat} {fr to : Int64} (hg : ∀ σ, I σ → I (go k σ)) (hh : ∀ σ h t s, wT σ ≤ t → I σ → I (wN σ, wA σ, wL σ, h, t, s)) : ∀ m i σ, I σ → I (wkLp P go k fr to m i σ) := by
  intro m
  induction m with
  | zero => intro i σ h; exact h
  | succ m ih =>
    intro i σ h
    unfold wkLp
    by_cases q1 : to < fr + lN i
    · rw [if_pos q1]; exact h
    · rw [if_neg q1]
      by_cases q2 : wS σ = true
      · rw [if_pos q2]; exact h
      · rw [if_neg q2]
        by_cases q3 : wT σ + 1 ≤ 4000
        · rw [if_pos q3]; exact ih _ _ (hg _ (hh _ _ _ _ (Nat.le_succ _) h))
        · rw [if_neg q3]; exact ih _ _ (hh _ _ _ _ (Nat.le_succ _) h)
theorem wkNd_ind (I : Ws → Prop) {go : Nat → Ws → Ws} {k : Nat} (hk : k < P.1) (hg : ∀ σ, I σ → I (go k σ)) (hsee : ∀ k σ, k < P.1 → pKd P k = 3 → I σ → I (seeW k σ)) (hh : ∀ σ h t s, wT σ ≤ t → I σ → I (wN σ, wA σ, wL σ, h, t, s)) (σ : Ws) (h : I σ) : I (wkNd P go k σ) := by
  unfold wkNd
  by_cases q1 : pKd P k = 3
  · rw [if_pos q1]; exact hsee k σ hk q1 h
  · rw [if_neg q1]
    by_cases q2 : pKd P k = 0 ∨ pKd P k = 1
    · rw [if_pos q2]; exact hh _ _ _ _ (Nat.le_refl _) (wkLp_ind I hg hh _ _ _ h)
    · rw [if_neg q2]
      by_cases q3 : pasW (vaW P (pFi P k) σ) (pSe P k) = true
      · rw [if_pos q3]; exact hg _ h
      · rw [if_neg q3]; exact h
theorem wkSb_ind (I : Ws → Prop) {go : Nat → Ws → Ws} {p : Int32} (hg : ∀ k σ, k < P.1 → I σ → I (go k σ)) (hsee : ∀ k σ, k < P.1 → pKd P k = 3 → I σ → I (seeW k σ)) (hh : ∀ σ h t s, wT σ ≤ t → I σ → I (wN σ, wA σ, wL σ, h, t, s)) : ∀ m c σ, I σ → I (wkSb P go p m c σ) := by
  intro m
  induction m with
  | zero => intro c σ h; exact h
  | succ m ih =>
    intro c σ h
    unfold wkSb
    by_cases q1 : wS σ = true
    · rw [if_pos q1]; exact h
    · rw [if_neg q1]
      by_cases q2 : nx (pPa P) p (P.1 - c) c < P.1
      · rw [if_pos q2]; exact ih _ _ (wkNd_ind I q2 (fun σ => hg _ σ q2) hsee hh σ h)
      · rw [if_neg q2]; exact h
theorem wkW_ind (I : Ws → Prop) (hsee : ∀ k σ, k < P.1 → pKd P k = 3 → I σ → I (seeW k σ)) (hh : ∀ σ h t s, wT σ ≤ t → I σ → I (wN σ, wA σ, wL σ, h, t, s)) : ∀ f p σ, I σ → I (wkW P f p σ) := by
  intro f
  induction f with
  | zero => intro p σ h; exact h
  | succ f ih =>
    intro p σ h
    unfold wkW
    exact wkSb_ind I (fun k σ _ h => ih _ _ h) hsee hh 40 0 σ h
/-- visits are of acts -/
theorem wkA_ok : wN (wkA P) ≤ 400 ∧ ∀ v, v < wN (wkA P) → wA (wkA P) v < P.1 ∧ pKd P (wA (wkA P) v) = 3 := by
  refine wkW_ind (P := P) (fun σ => wN σ ≤ 400 ∧ ∀ v, v < wN σ → wA σ v < P.1 ∧ pKd P (wA σ v) = 3) (fun k σ hk h3 h => ?_) (fun σ _ _ _ _ h => h) 45 (-9) wkI ⟨Nat.zero_le _, fun v hv => absurd hv (Nat.not_lt_zero v)⟩
  unfold seeW
  by_cases q : wN σ < 400
  · rw [if_pos q]
    refine ⟨q, fun v hv => ?_⟩
    show va_up (wA σ) (wN σ) k v < P.1 ∧ pKd P (va_up (wA σ) (wN σ) k v) = 3
    by_cases z : v = wN σ
    · rw [z, va_up_self]; exact ⟨hk, h3⟩
    · rw [va_up_ne _ _ z]; exact h.2 v (by have : v < wN σ + 1 := hv; omega)
  · rw [if_neg q]; exact h
theorem seeW_T (k : Nat) (σ : Ws) : wT (seeW k σ) = wT σ ∧ wH (seeW k σ) = wH σ := by
  unfold seeW
  by_cases q : wN σ < 400
  · rw [if_pos q]; exact ⟨rfl, rfl⟩
  · rw [if_neg q]; exact ⟨rfl, rfl⟩
/-- turns are never taken back -/
theorem wkW_T (f : Nat) (p : Int32) (σ : Ws) : wT σ ≤ wT (wkW P f p σ) := by
  refine wkW_ind (P := P) (fun τ => wT σ ≤ wT τ) (fun k τ _ _ h => ?_) (fun τ _ t _ ht h => Nat.le_trans h ht) f p σ (Nat.le_refl _)
  rw [(seeW_T k τ).1]; exact h
/-- letters of the l loops around are h0's, the others 0 -/
def Jw (l : Nat) (h0 : Nat → Int64) (σ : Ws) : Prop := (∀ d, d < l → wH σ d = h0 d) ∧ ∀ d, l ≤ d → d < 4 → wH σ d = 0
theorem sub_lv {ns : Nat} (hT : TW ns P.1 (pKd P) (pPa P) (pLp P) (pFi P) (pSe P)) (hn : P.1 ≤ 40) {k l' : Nat} (hk : k < P.1) (a : Lq (pKd P) k → l' = cN_ (pLp P k) + 1) (b : ¬ Lq (pKd P) k → l' = cN_ (pLp P k)) : ∀ k', k' < P.1 → pPa P k' = nI k → cN_ (pLp P k') = l' := by
  intro k' hk' e
  obtain ⟨t1, t2, t3, t4, t5, t6, _⟩ := hT k' hk'
  have e9 : pPa P k' ≠ -9 := by rw [e]; exact nN9 (by omega)
  have ek : cN_ (pPa P k') = k := by rw [e]; exact nI_clamp (by omega)
  rw [ek] at t5 t6
  by_cases q : Lq (pKd P) k
  · rw [a q]; exact t5 e9 q
  · rw [b q]; exact t6 e9 q
theorem wkNd_J {ns : Nat} (hT : TW ns P.1 (pKd P) (pPa P) (pLp P) (pFi P) (pSe P)) (hn : P.1 ≤ 40) {f : Nat} (ih : ∀ p l h0 σ, (∀ k, k < P.1 → pPa P k = p → cN_ (pLp P k) = l) → Jw l h0 σ → Jw l h0 (wkW P f p σ)) {k l : Nat} (q2 : k < P.1) (hlk : cN_ (pLp P k) = l) {h0 : Nat → Int64} {σ : Ws} (h : Jw l h0 σ) :
    Jw l h0 (wkNd P (fun k => wkW P f (nI k)) k σ) := by
  unfold wkNd
  by_cases k3 : pKd P k = 3
  · rw [if_pos k3]
    unfold Jw
    rw [(seeW_T k σ).2]; exact h
  · rw [if_neg k3]
    by_cases kl : pKd P k = 0 ∨ pKd P k = 1
    · rw [if_pos kl]
      have hlp : ∀ fr to m i σ, ((∀ d, d < l → wH σ d = h0 d) ∧ ∀ d, l + 1 ≤ d → d < 4 → wH σ d = 0) → ((∀ d, d < l → wH (wkLp P (fun k => wkW P f (nI k)) k fr to m i σ) d = h0 d) ∧ ∀ d, l + 1 ≤ d → d < 4 → wH (wkLp P (fun k => wkW P f (nI k)) k fr to m i σ) d = 0) := by
        intro fr to m
        induction m with
        | zero => intro i σ h; exact h
        | succ m ihl =>
          intro i σ h
          unfold wkLp
          by_cases z1 : to < fr + lN i
          · rw [if_pos z1]; exact h
          · rw [if_neg z1]
            by_cases z2 : wS σ = true
            · rw [if_pos z2]; exact h
            · rw [if_neg z2]
              by_cases z3 : wT σ + 1 ≤ 4000
              · rw [if_pos z3]
                have g := ih (nI k) (l + 1) (vp_updL h0 l (fr + lN i)) (wN σ, wA σ, wL σ, vp_updL (wH σ) (cN_ (pLp P k)) (fr + lN i), wT σ + 1, wS σ) (sub_lv hT hn q2 (fun _ => by rw [hlk]) (fun z => absurd kl z)) ⟨fun d hd => by
                    show vp_updL (wH σ) (cN_ (pLp P k)) (fr + lN i) d = vp_updL h0 l (fr + lN i) d
                    rw [hlk]
                    by_cases z : d = l
                    · rw [z, pk_uLs, pk_uLs]
                    · rw [pk_uLn z, pk_uLn z]; exact h.1 d (by omega), fun d a b => by
                    show vp_updL (wH σ) (cN_ (pLp P k)) (fr + lN i) d = 0
                    rw [hlk, pk_uLn (by omega)]; exact h.2 d a b⟩
                refine ihl _ _ ⟨fun d hd => ?_, fun d a b => g.2 d a b⟩
                rw [g.1 d (by omega), pk_uLn (by omega)]
              · rw [if_neg z3]; exact ihl _ _ h
      have g := hlp (vaW P (pFi P k) σ) (vaW P (pSe P k) σ) 4001 0 σ ⟨h.1, fun d a b => h.2 d (by omega) b⟩
      refine ⟨fun d hd => ?_, fun d a b => ?_⟩
      · show vp_updL (wH (wkLp P (fun k => wkW P f (nI k)) k (vaW P (pFi P k) σ) (vaW P (pSe P k) σ) 4001 0 σ)) (cN_ (pLp P k)) 0 d = h0 d
        rw [hlk, pk_uLn (by omega)]; exact g.1 d hd
      · show vp_updL (wH (wkLp P (fun k => wkW P f (nI k)) k (vaW P (pFi P k) σ) (vaW P (pSe P k) σ) 4001 0 σ)) (cN_ (pLp P k)) 0 d = 0
        rw [hlk]
        by_cases z : d = l
        · rw [z, pk_uLs]
        · rw [pk_uLn z]; exact g.2 d (by omega) b
    · rw [if_neg kl]
      by_cases qp : pasW (vaW P (pFi P k) σ) (pSe P k) = true
      · rw [if_pos qp]
        exact ih (nI k) l h0 σ (sub_lv hT hn q2 (fun z => absurd z kl) (fun _ => hlk.symm)) h
      · rw [if_neg qp]; exact h
theorem wkW_J {ns : Nat} (hT : TW ns P.1 (pKd P) (pPa P) (pLp P) (pFi P) (pSe P)) (hn : P.1 ≤ 40) : ∀ f p l h0 σ, (∀ k, k < P.1 → pPa P k = p → cN_ (pLp P k) = l) → Jw l h0 σ → Jw l h0 (wkW P f p σ) := by
  intro f
  induction f with
  | zero => intro p l h0 σ _ h; exact h
  | succ f ih =>
    intro p l h0 σ hl h
    unfold wkW
    have hsb : ∀ m c σ, Jw l h0 σ → Jw l h0 (wkSb P (fun k => wkW P f (nI k)) p m c σ) := by
      intro m
      induction m with
      | zero => intro c σ h; exact h
      | succ m ihm =>
        intro c σ h
        unfold wkSb
        by_cases q1 : wS σ = true
        · rw [if_pos q1]; exact h
        · rw [if_neg q1]
          by_cases q2 : nx (pPa P) p (P.1 - c) c < P.1
          · rw [if_pos q2]
            have hx := nx_spec (pPa P) p (P.1 - c) c
            exact ihm _ _ (wkNd_J hT hn ih q2 (hl _ q2 (hx.2.2.1 (by omega))) h)
          · rw [if_neg q2]; exact h
    exact hsb 40 0 σ h
def Zw (l : Nat) (σ : Ws) : Prop := ∀ d, l ≤ d → d < 4 → wH σ d = 0
theorem wkLp_sp {go : Nat → Ws → Ws} {k : Nat} {fr to : Int64} {σ : Ws} (h : wS σ = true) : ∀ m i, wkLp P go k fr to m i σ = σ := by
  intro m i
  cases m with
  | zero => rfl
  | succ m =>
    unfold wkLp
    by_cases z : to < fr + lN i
    · rw [if_pos z]
    · rw [if_neg z, if_pos h]
theorem wkSb_sp {go : Nat → Ws → Ws} {p : Int32} {σ : Ws} (h : wS σ = true) : ∀ m c, wkSb P go p m c σ = σ := by
  intro m c
  cases m with
  | zero => rfl
  | succ m =>
    unfold wkSb
    rw [if_pos h]
/-- two programs that differ in terms that no node uses -/
theorem wkLp_cg {P' : Pg} (hl : pLp P' = pLp P) {go go' : Nat → Ws → Ws} {k : Nat} {fr to : Int64} (hg : ∀ σ, go' k σ = go k σ) : ∀ m i σ, wkLp P' go' k fr to m i σ = wkLp P go k fr to m i σ := by
  intro m
  induction m with
  | zero => intro i σ; rfl
  | succ m ih =>
    intro i σ
    unfold wkLp
    rw [hl, hg, ih, ih]
theorem wkNd_cg {P' : Pg} (hk : pKd P' = pKd P) (hl : pLp P' = pLp P) (hf : pFi P' = pFi P) (hs : pSe P' = pSe P) {go go' : Nat → Ws → Ws} {k : Nat} (hg : ∀ σ, go' k σ = go k σ)
    (hv : pKd P k ≠ 3 → ∀ σ, vaW P' (pFi P k) σ = vaW P (pFi P k) σ) (hv2 : (pKd P k = 0 ∨ pKd P k = 1) → ∀ σ, vaW P' (pSe P k) σ = vaW P (pSe P k) σ) (m4 : Nat) (σ : Ws) :
    (if pKd P' k = 3 then seeW k σ
  else if pKd P' k = 0 ∨ pKd P' k = 1 then clsW P' k (wkLp P' go' k (vaW P' (pFi P' k) σ) (vaW P' (pSe P' k) σ) m4 0 σ)
  else if pasW (vaW P' (pFi P' k) σ) (pSe P' k) = true then go' k σ else σ) =
    (if pKd P k = 3 then seeW k σ
  else if pKd P k = 0 ∨ pKd P k = 1 then clsW P k (wkLp P go k (vaW P (pFi P k) σ) (vaW P (pSe P k) σ) m4 0 σ)
  else if pasW (vaW P (pFi P k) σ) (pSe P k) = true then go k σ else σ) := by
  rw [hk, hf, hs]
  by_cases q1 : pKd P k = 3
  · rw [if_pos q1, if_pos q1]
  · rw [if_neg q1, if_neg q1, hv q1]
    by_cases q2 : pKd P k = 0 ∨ pKd P k = 1
    · rw [if_pos q2, if_pos q2, hv2 q2, wkLp_cg hl (go := go) (go' := go') hg]
      unfold clsW
      rw [hl]
    · rw [if_neg q2, if_neg q2, hg]
theorem wkSb_cg {P' : Pg} (hn : P'.1 = P.1) (hp : pPa P' = pPa P) {go go' : Nat → Ws → Ws} {p : Int32} (hnd : ∀ k σ, k < P.1 → wkNd P' go' k σ = wkNd P go k σ) : ∀ m c σ, wkSb P' go' p m c σ = wkSb P go p m c σ := by
  intro m
  induction m with
  | zero => intro c σ; rfl
  | succ m ihm =>
    intro c σ
    unfold wkSb
    rw [hn, hp]
    by_cases q1 : wS σ = true
    · rw [if_pos q1, if_pos q1]
    · rw [if_neg q1, if_neg q1]
      by_cases q2 : nx (pPa P) p (P.1 - c) c < P.1
      · rw [if_pos q2, if_pos q2, hnd _ _ q2, ihm]
      · rw [if_neg q2, if_neg q2]
theorem wk_cg {P' : Pg} (hn : P'.1 = P.1) (hk : pKd P' = pKd P) (hp : pPa P' = pPa P) (hl : pLp P' = pLp P) (hf : pFi P' = pFi P) (hs : pSe P' = pSe P)
    (hv : ∀ k, k < P.1 → pKd P k ≠ 3 → ∀ σ, vaW P' (pFi P k) σ = vaW P (pFi P k) σ) (hv2 : ∀ k, k < P.1 → (pKd P k = 0 ∨ pKd P k = 1) → ∀ σ, vaW P' (pSe P k) σ = vaW P (pSe P k) σ) : ∀ f p σ, wkW P' f p σ = wkW P f p σ := by
  intro f
  induction f with
  | zero => intro p σ; rfl
  | succ f ih =>
    intro p σ
    rw [wkW, wkW]
    exact wkSb_cg hn hp (fun k σ hk' => by
      rw [wkNd, wkNd]
      exact wkNd_cg hk hl hf hs (fun σ => ih _ _) (hv k hk') (hv2 k hk') _ σ) 40 0 σ
end
theorem val_h {sz tm : Nat → Int32} {h h' : Nat → Int64} {s : Nat} (e : ∀ d, d < 4 → h d = h' d) : val sz tm h s = val sz tm h' s := by
  unfold val
  rw [e 0 (by omega), e 1 (by omega), e 2 (by omega), e 3 (by omega)]
theorem val_t {sz tm tm' : Nat → Int32} {h : Nat → Int64} {s n : Nat} (hs : s < n) (e : ∀ j, j < n * 8 → tm j = tm' j) : val sz tm h s = val sz tm' h s := by
  unfold val
  rw [e (s * 8) (by omega), e (s * 8 + 1) (by omega), e (s * 8 + 2) (by omega), e (s * 8 + 3) (by omega), e (s * 8 + 4) (by omega), e (s * 8 + 5) (by omega), e (s * 8 + 6) (by omega), e (s * 8 + 7) (by omega)]
/-! what a sum is worth, by the class and by the reference -/
theorem rh61 {M : Mem} {t k : Nat} (ht : t + 8 ≤ 640) (hk : k < 4) (f : Nat) (v : Int64) : f_X8_reckon_h_61 (f + 1) (nI 0) (nI t) v (nI k) M = f_X8_reckon_h_61 f (nI 0) (nI t) (v + (M.1 4 (t + 4 + k)).toInt64 * M.2.1 37 k) (nI (k + 1)) M := by
  rw [f_X8_reckon_h_61, i_n4, if_neg (nI_ge (by omega) (by omega)), nI_1, i_n3, nI_add, nI_add, nI_add, ck_nI (by omega) (by omega), ck_nI (by omega) (by omega), nI_clamp (by omega), nI_clamp (by omega), nI_1, Nat.zero_add]
theorem rh19 {M : Mem} {t k : Nat} (ht : t + 8 ≤ 640) (hk : k < 3) (f : Nat) (v : Int64) : f_X8_reckon_h_19 (f + 1) (nI 0) (nI t) v (nI k) M = f_X8_reckon_h_19 f (nI 0) (nI t) (v + (M.1 4 (t + 1 + k)).toInt64 * (M.1 2 k).toInt64) (nI (k + 1)) M := by
  rw [f_X8_reckon_h_19, i_n3, if_neg (nI_ge (by omega) (by omega)), nI_1, nI_add, ck_nI (by omega) (by omega), ck_nI (by omega) (by omega), nI_clamp (by omega), nI_clamp (by omega), nI_1]
theorem rh_eq {M : Mem} {s : Nat} (hs : s < 80) : f_X8_reckon_h M (nI s) 0 = some (val (M.1 2) (M.1 4) (M.2.1 37) s) := by
  unfold f_X8_reckon_h
  rw [i_n8, pk_mul, ck_nI (by omega) (by omega), nI_clamp (by omega), i_n0]
  rw [show (100000 : Nat) = 99997 + 1 + 1 + 1 from rfl, rh19 (by omega) (by omega), rh19 (by omega) (by omega), rh19 (by omega) (by omega), f_X8_reckon_h_19, if_pos (by decide), i_n0]
  rw [show (100000 : Nat) = 99995 + 1 + 1 + 1 + 1 + 1 from rfl, rh61 (by omega) (by omega), rh61 (by omega) (by omega), rh61 (by omega) (by omega), rh61 (by omega) (by omega), f_X8_reckon_h_61, if_pos (by decide)]
  rfl
theorem rl61 {M : Mem} {t k b : Nat} (ht : t + 8 ≤ 640) (hk : k < 4) (hb : b + 4 ≤ 1600) (f : Nat) (v : Int64) : f_X8_reckon_l_61 (f + 1) (nI b) (nI t) v (nI k) M = f_X8_reckon_l_61 f (nI b) (nI t) (v + (M.1 4 (t + 4 + k)).toInt64 * M.2.1 36 (b + k)) (nI (k + 1)) M := by
  rw [f_X8_reckon_l_61, i_n4, if_neg (nI_ge (by omega) (by omega)), nI_1, i_n3, nI_add, nI_add, nI_add, ck_nI (by omega) (by omega), ck_nI (by omega) (by omega), nI_clamp (by omega), nI_clamp (by omega), nI_1]
theorem rl19 {M : Mem} {t k b : Nat} (ht : t + 8 ≤ 640) (hk : k < 3) (f : Nat) (v : Int64) : f_X8_reckon_l_19 (f + 1) (nI b) (nI t) v (nI k) M = f_X8_reckon_l_19 f (nI b) (nI t) (v + (M.1 4 (t + 1 + k)).toInt64 * (M.1 2 k).toInt64) (nI (k + 1)) M := by
  rw [f_X8_reckon_l_19, i_n3, if_neg (nI_ge (by omega) (by omega)), nI_1, nI_add, ck_nI (by omega) (by omega), ck_nI (by omega) (by omega), nI_clamp (by omega), nI_clamp (by omega), nI_1]
theorem rl_eq {M : Mem} {s b : Nat} (hs : s < 80) (hb : b + 4 ≤ 1600) : f_X8_reckon_l M (nI s) (nI b) = some (val (M.1 2) (M.1 4) (fun d => M.2.1 36 (b + d)) s) := by
  unfold f_X8_reckon_l
  rw [i_n8, pk_mul, ck_nI (by omega) (by omega), nI_clamp (by omega), i_n0]
  rw [show (100000 : Nat) = 99997 + 1 + 1 + 1 from rfl, rl19 (by omega) (by omega), rl19 (by omega) (by omega), rl19 (by omega) (by omega), f_X8_reckon_l_19, if_pos (by decide), i_n0]
  rw [show (100000 : Nat) = 99995 + 1 + 1 + 1 + 1 + 1 from rfl, rl61 (by omega) (by omega) hb, rl61 (by omega) (by omega) hb, rl61 (by omega) (by omega) hb, rl61 (by omega) (by omega) hb, f_X8_reckon_l_61, if_pos (by decide)]
  rfl
theorem vo56 {M : Mem} {s k : Nat} (hs : s < 80) (hk : k < 4) (f : Nat) (v : Int64) : f_X12_valueOf_56 (f + 1) (nI s) v (nI k) M = f_X12_valueOf_56 f (nI s) (v + (M.1 4 (s * 8 + 4 + k)).toInt64 * M.2.1 5 k) (nI (k + 1)) M := by
  rw [f_X12_valueOf_56, i_n4, if_neg (nI_ge (by omega) (by omega)), i_n8, pk_mul, nI_add, nI_add, ck_nI (by omega) (by omega), ck_nI (by omega) (by omega), nI_clamp (by omega), nI_clamp (by omega), nI_1, Nat.mul_comm 8 s]
theorem vo14 {M : Mem} {s k : Nat} (hs : s < 80) (hk : k < 3) (f : Nat) (v : Int64) : f_X12_valueOf_14 (f + 1) (nI s) v (nI k) M = f_X12_valueOf_14 f (nI s) (v + (M.1 4 (s * 8 + 1 + k)).toInt64 * (M.1 2 k).toInt64) (nI (k + 1)) M := by
  rw [f_X12_valueOf_14, i_n3, if_neg (nI_ge (by omega) (by omega)), i_n8, pk_mul, nI_1, nI_add, ck_nI (by omega) (by omega), ck_nI (by omega) (by omega), nI_clamp (by omega), nI_clamp (by omega), nI_1, Nat.mul_comm 8 s]
theorem vo_eq {M : Mem} {s : Nat} (hs : s < 80) : f_X12_valueOf M (nI s) = some (val (M.1 2) (M.1 4) (M.2.1 5) s) := by
  unfold f_X12_valueOf
  rw [i_n8, pk_mul, ck_nI (by omega) (by omega), nI_clamp (by omega), i_n0]
  rw [show (100000 : Nat) = 99997 + 1 + 1 + 1 from rfl, vo14 hs (by omega), vo14 hs (by omega), vo14 hs (by omega), f_X12_valueOf_14, if_pos (by decide), i_n0]
  rw [show (100000 : Nat) = 99995 + 1 + 1 + 1 + 1 + 1 from rfl, vo56 hs (by omega), vo56 hs (by omega), vo56 hs (by omega), vo56 hs (by omega), f_X12_valueOf_56, if_pos (by decide), Nat.mul_comm 8 s]
  rfl
