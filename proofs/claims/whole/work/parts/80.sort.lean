/-! the pure half: rows that stand in order -/
def On (c : Nat) (M M' : Mem) : Prop := (∀ c', c' ≠ c → M'.1 c' = M.1 c') ∧ M'.2 = M.2
def OnL (c : Nat) (M M' : Mem) : Prop := M'.1 = M.1 ∧ (∀ c', c' ≠ c → M'.2.1 c' = M.2.1 c') ∧ M'.2.2 = M.2.2
theorem On_r (c : Nat) (M : Mem) : On c M M := ⟨fun _ _ => rfl, rfl⟩
theorem On_s {c k : Nat} {M M' : Mem} {x : Int32} (h : On c M M') : On c M (sI M' c k x) := ⟨fun c' q => by rw [sI_n q]; exact h.1 c' q, h.2⟩
theorem On_t {c : Nat} {M M1 M2 : Mem} (h : On c M M1) (g : On c M1 M2) : On c M M2 := ⟨fun c' q => (g.1 c' q).trans (h.1 c' q), g.2.trans h.2⟩
theorem OnL_r (c : Nat) (M : Mem) : OnL c M M := ⟨rfl, fun _ _ => rfl, rfl⟩
theorem OnL_s {c k : Nat} {M M' : Mem} {x : Int64} (h : OnL c M M') : OnL c M (sL M' c k x) := ⟨h.1, fun c' q => by rw [sL_n q]; exact h.2.1 c' q, h.2.2⟩
theorem OnL_t {c : Nat} {M M1 M2 : Mem} (h : OnL c M M1) (g : OnL c M1 M2) : OnL c M M2 := ⟨g.1.trans h.1, fun c' q => (g.2.1 c' q).trans (h.2.1 c' q), g.2.2.trans h.2.2⟩
def Lin (ah : Nat → Nat → Prop) : Prop := (∀ v, ¬ ah v v) ∧ (∀ u v w, ah u v → ah v w → ah u w) ∧ (∀ u v, u ≠ v → ah u v ∨ ah v u)
theorem Lin_a (rm cm : Nat → Int32) (σ : Ws) : Lin (ahd rm cm σ) := ⟨ahd_irr, fun _ _ _ h g => ahd_tr h g, fun _ _ h => ahd_tot h⟩
theorem QW_mk {n : Nat} {ah : Nat → Nat → Prop} {sq tn : Nat → Int32} {s : Nat → Nat} (hn : n ≤ 400) (h1 : ∀ i, i < n → sq i = nI (s i) ∧ s i < n ∧ tn (s i) = nI i) (h2 : ∀ v, v < n → ∃ i, i < n ∧ s i = v) (h3 : ∀ i j, i < j → j < n → ah (s i) (s j)) : QW n ah sq tn := by
  have e : ∀ i, i < n → cN_ (sq i) = s i := fun i hi => by rw [(h1 i hi).1]; exact cN_n' (by have := (h1 i hi).2.1; omega)
  refine ⟨fun i hi => ?_, fun v hv => ?_, fun i j hij hj => ?_⟩
  · rw [e i hi]; exact h1 i hi
  · obtain ⟨i, hi, e2⟩ := h2 v hv
    have q := h1 i hi
    rw [e2] at q
    rw [q.2.2, cN_n' (by omega)]
    exact ⟨rfl, hi, q.1⟩
  · rw [e i (by omega), e j hj]; exact h3 i j hij hj
theorem QW_un {n : Nat} {ah : Nat → Nat → Prop} {sq tn sq' tn' : Nat → Int32} (hn : n ≤ 400) (hl : Lin ah) (h : QW n ah sq tn) (h' : QW n ah sq' tn') : (∀ i, i < n → sq i = sq' i) ∧ ∀ v, v < n → tn v = tn' v := by
  have inj : ∀ {sq tn : Nat → Int32}, QW n ah sq tn → ∀ i, i < n → ∀ j, j < n → sq i = sq j → i = j := by
    intro sq tn h i hi j hj e
    have a := (h.1 i hi).2.2
    have b := (h.1 j hj).2.2
    rw [e, b] at a
    exact (nI_inj (by omega) (by omega) a).symm
  have key : ∀ {sq tn sq' tn' : Nat → Int32}, QW n ah sq tn → QW n ah sq' tn' → ∀ i, i < n → (∀ j, j < i → sq j = sq' j) → sq i ≠ sq' i → ah (cN_ (sq' i)) (cN_ (sq i)) := by
    intro sq tn sq' tn' h h' i hi hp ne
    have a := h.1 i hi
    have b := h'.2.1 (cN_ (sq i)) a.2.1
    have e : sq' (cN_ (tn' (cN_ (sq i)))) = sq i := by rw [b.2.2]; exact a.1.symm
    have lt : i < cN_ (tn' (cN_ (sq i))) := by
      rcases Nat.lt_trichotomy i (cN_ (tn' (cN_ (sq i)))) with z | z | z
      · exact z
      · rw [← z] at e; exact absurd e.symm ne
      · have := hp _ z
        rw [e] at this
        have := inj h _ (by omega) i hi this
        omega
    have := h'.2.2 i _ lt b.2.1
    rw [e] at this
    exact this
  have main : ∀ i, i < n → sq i = sq' i := by
    intro i
    induction i using Nat.strongRecOn with
    | ind i ih =>
      intro hi
      apply Classical.byContradiction
      intro ne
      have p : ∀ j, j < i → sq j = sq' j := fun j hj => ih j hj (by omega)
      have a := key h h' i hi p ne
      have b := key h' h i hi (fun j hj => (p j hj).symm) (fun z => ne z.symm)
      exact hl.1 _ (hl.2.1 _ _ _ a b)
  refine ⟨main, fun v hv => ?_⟩
  have a := h.2.1 v hv
  have b := (h'.1 (cN_ (tn v)) a.2.1).2.2
  rw [← main _ a.2.1, a.2.2, cN_n' (by omega)] at b
  rw [b]; exact a.1
section
variable {M0 : Mem} {ah : Nat → Nat → Prop} {n : Nat}
/-- one visit takes its place -/
theorem lo140 {k130 : Int32 → Mem → Option Mem} {v : Nat} {s : Nat → Nat} (hl : Lin ah) (hn : n ≤ 400) (hA : ∀ M, On 38 M0 M → ∀ v w, v < n → w < n → ∃ b, f_X12_isAhead M (nI v) (nI w) = some b ∧ (b = true ↔ ah v w)) (hv : v < n) (hs1 : ∀ i, i < v → s i < v) (hs2 : ∀ i j, i < j → j < v → ah (s i) (s j)) :
    ∀ j f M, j ≤ v → j < f → On 38 M0 M → (∀ i, i < j → M.1 38 i = nI (s i)) → (∀ i, j < i → i ≤ v → M.1 38 i = nI (s (i - 1))) → (∀ i, j ≤ i → i < v → ah v (s i)) →
    ∃ j' M', f_X12_layOrder_140 k130 f (nI v) (nI j) M = k130 (nI (v + 1)) M' ∧ On 38 M0 M' ∧ j' ≤ v ∧ (∀ i, i < j' → M'.1 38 i = nI (s i)) ∧ M'.1 38 j' = nI v ∧ (∀ i, j' < i → i ≤ v → M'.1 38 i = nI (s (i - 1))) ∧ (∀ i, j' ≤ i → i < v → ah v (s i)) ∧ (∀ i, i < j' → ah (s i) v) := by
  intro j
  induction j with
  | zero =>
    intro f M hj hf hO h1 h2 h3
    obtain ⟨f, rfl⟩ : ∃ z, f = z + 1 := ⟨f - 1, by omega⟩
    rw [f_X12_layOrder_140, if_pos (by decide), ck_nI (by omega) (by omega), nI_clamp (by omega), nI_1]
    refine ⟨0, _, rfl, On_s hO, hj, fun i hi => absurd hi (by omega), by rw [sI_e, pk_us], fun i q1 q2 => ?_, h3, fun i hi => absurd hi (by omega)⟩
    rw [sI_e, pk_un (by omega)]; exact h2 i q1 q2
  | succ j ih =>
    intro f M hj hf hO h1 h2 h3
    obtain ⟨f, rfl⟩ : ∃ z, f = z + 1 := ⟨f - 1, by omega⟩
    have sv := hs1 j (by omega)
    obtain ⟨b, e1, e2⟩ := hA M hO v (s j) hv (by omega)
    rw [f_X12_layOrder_140, if_neg (show ¬ nI (j + 1) ≤ 0 from nI_ge (a := 0) (by omega) (by omega)), nI_pred]
    simp only [ck_nI (show j < 401 by omega) (by decide : (401 : Nat) < 2 ^ 31), ck_nI (show j + 1 < 401 by omega) (by decide : (401 : Nat) < 2 ^ 31), nI_clamp (show j < 2 ^ 31 by omega), nI_clamp (show j + 1 < 2 ^ 31 by omega)]
    rw [h1 j (by omega), e1, bq_s]
    cases b with
    | true =>
      rw [bT, show nI (j + 1) + (-1) = nI j from (Int32.sub_eq_add_neg (nI (j + 1)) 1).symm.trans (nI_pred j)]
      refine ih f _ (by omega) (by omega) (On_s hO) (fun i hi => ?_) (fun i q1 q2 => ?_) (fun i q1 q2 => ?_)
      · rw [sI_e, pk_un (by omega)]; exact h1 i (by omega)
      · by_cases z : i = j + 1
        · rw [z, sI_e, pk_us]; rfl
        · rw [sI_e, pk_un z]; exact h2 i (by omega) q2
      · by_cases z : i = j
        · rw [z]; exact e2.mp rfl
        · exact h3 i (by omega) q2
    | false =>
      have na : ¬ ah v (s j) := fun z => absurd (e2.mpr z) (by decide)
      have aj : ah (s j) v := (hl.2.2 v (s j) (by omega)).resolve_left na
      rw [bF, nI_1]
      refine ⟨j + 1, _, rfl, On_s hO, hj, fun i hi => ?_, by rw [sI_e, pk_us], fun i q1 q2 => ?_, h3, fun i hi => ?_⟩
      · rw [sI_e, pk_un (by omega)]; exact h1 i hi
      · rw [sI_e, pk_un (by omega)]; exact h2 i q1 q2
      · by_cases z : i = j
        · rw [z]; exact aj
        · exact hl.2.1 _ _ _ (hs2 i j (by omega) (by omega)) aj
/-- all take their places -/
theorem lo130 (hl : Lin ah) (hn : n ≤ 400) (h106 : M0.1 106 0 = nI n) (hA : ∀ M, On 38 M0 M → ∀ v w, v < n → w < n → ∃ b, f_X12_isAhead M (nI v) (nI w) = some b ∧ (b = true ↔ ah v w)) :
    ∀ r v f M (s : Nat → Nat), v + r = n → r < f → On 38 M0 M → (∀ i, i < v → M.1 38 i = nI (s i) ∧ s i < v) → (∀ u, u < v → ∃ i, i < v ∧ s i = u) → (∀ i j, i < j → j < v → ah (s i) (s j)) →
    ∃ (s' : Nat → Nat) (M' : Mem), f_X12_layOrder_130 f (nI v) M = f_X12_layOrder_195 100000 0 M' ∧ On 38 M0 M' ∧ (∀ i, i < n → M'.1 38 i = nI (s' i) ∧ s' i < n) ∧ (∀ u, u < n → ∃ i, i < n ∧ s' i = u) ∧ (∀ i j, i < j → j < n → ah (s' i) (s' j)) := by
  intro r
  induction r with
  | zero =>
    intro v f M s hv hf hO h1 h2 h3
    obtain ⟨f, rfl⟩ : ∃ z, f = z + 1 := ⟨f - 1, by omega⟩
    have : v = n := by omega
    subst this
    rw [f_X12_layOrder_130, hO.1 106 (by decide), h106, if_pos (nI_le (by omega) (by omega))]
    exact ⟨s, M, rfl, hO, h1, h2, h3⟩
  | succ r ih =>
    intro v f M s hv hf hO h1 h2 h3
    obtain ⟨f, rfl⟩ : ∃ z, f = z + 1 := ⟨f - 1, by omega⟩
    rw [f_X12_layOrder_130, hO.1 106 (by decide), h106, if_neg (nI_ge (by omega) (by omega))]
    obtain ⟨j, M', e, g1, g2, g3, g4, g5, g6, g7⟩ := lo140 (k130 := f_X12_layOrder_130 f) (v := v) (s := s) hl hn hA (by omega) (fun i hi => (h1 i hi).2) h3 v 100000 M (Nat.le_refl v) (by omega) hO (fun i hi => (h1 i hi).1) (fun i q1 q2 => by omega) (fun i q1 q2 => by omega)
    rw [e]
    refine ih (v + 1) f M' (fun i => if i < j then s i else if i = j then v else s (i - 1)) (by omega) (by omega) g1 (fun i hi => ?_) (fun u hu => ?_) (fun i i' q1 q2 => ?_)
    · show M'.1 38 i = nI (if i < j then s i else if i = j then v else s (i - 1)) ∧ (if i < j then s i else if i = j then v else s (i - 1)) < v + 1
      by_cases z : i < j
      · have := (h1 i (by omega)).2
        rw [if_pos z]; exact ⟨g3 i z, by omega⟩
      · rw [if_neg z]
        by_cases y : i = j
        · rw [if_pos y, y]; exact ⟨g4, by omega⟩
        · have := (h1 (i - 1) (by omega)).2
          rw [if_neg y]; exact ⟨g5 i (by omega) (by omega), by omega⟩
    · by_cases z : u = v
      · exact ⟨j, by omega, by show (if j < j then s j else if j = j then v else s (j - 1)) = u; rw [if_neg (by omega), if_pos rfl, z]⟩
      · obtain ⟨i, hi, e⟩ := h2 u (by omega)
        by_cases y : i < j
        · exact ⟨i, by omega, by show (if i < j then s i else if i = j then v else s (i - 1)) = u; rw [if_pos y, e]⟩
        · exact ⟨i + 1, by omega, by show (if i + 1 < j then s (i + 1) else if i + 1 = j then v else s (i + 1 - 1)) = u; rw [if_neg (by omega), if_neg (by omega)]; exact e⟩
    · show ah (if i < j then s i else if i = j then v else s (i - 1)) (if i' < j then s i' else if i' = j then v else s (i' - 1))
      by_cases z : i < j
      · rw [if_pos z]
        by_cases y : i' < j
        · rw [if_pos y]; exact h3 i i' q1 (by omega)
        · rw [if_neg y]
          by_cases x : i' = j
          · rw [if_pos x]; exact g7 i z
          · rw [if_neg x]; exact h3 i (i' - 1) (by omega) (by omega)
      · rw [if_neg z, if_neg (show ¬ i' < j by omega), if_neg (show ¬ i' = j by omega)]
        by_cases x : i = j
        · rw [if_pos x]; exact g6 (i' - 1) (by omega) (by omega)
        · rw [if_neg x]; exact h3 (i - 1) (i' - 1) (by omega) (by omega)
theorem lo195 {s : Nat → Nat} (hn : n ≤ 400) (h106 : M0.1 106 0 = nI n) (h38 : ∀ i, i < n → M0.1 38 i = nI (s i) ∧ s i < n) (hi : ∀ i j, i < n → j < n → s i = s j → i = j) :
    ∀ r v f M, v + r = n → r < f → On 39 M0 M → (∀ i, i < v → M.1 39 (s i) = nI i) → ∃ M', f_X12_layOrder_195 f (nI v) M = some M' ∧ On 39 M0 M' ∧ ∀ i, i < n → M'.1 39 (s i) = nI i := by
  intro r
  induction r with
  | zero =>
    intro v f M hv hf hO h1
    obtain ⟨f, rfl⟩ : ∃ z, f = z + 1 := ⟨f - 1, by omega⟩
    have : v = n := by omega
    subst this
    rw [f_X12_layOrder_195, hO.1 106 (by decide), h106, if_pos (nI_le (by omega) (by omega))]
    exact ⟨M, rfl, hO, h1⟩
  | succ r ih =>
    intro v f M hv hf hO h1
    obtain ⟨f, rfl⟩ : ∃ z, f = z + 1 := ⟨f - 1, by omega⟩
    have q := (h38 v (by omega)).2
    rw [f_X12_layOrder_195, hO.1 106 (by decide), h106, if_neg (nI_ge (by omega) (by omega)), ck_nI (by omega) (by omega), nI_clamp (by omega), hO.1 38 (by decide), (h38 v (by omega)).1, ck_nI (by omega) (by omega), nI_clamp (by omega), nI_1]
    refine ih (v + 1) f _ (by omega) (by omega) (On_s hO) (fun i hi' => ?_)
    by_cases z : i = v
    · rw [z, sI_e, pk_us]
    · rw [sI_e, pk_un (fun y => z (hi i v (by omega) (by omega) y))]; exact h1 i (by omega)
end
section
variable {M0 : Mem} {rm cm : Nat → Int32} {σ : Ws}
theorem lo19 {k2 : Int32 → Mem → Option Mem} {v q : Nat} (hv : v < 400) (hk : wA σ v < 40) (hq : q ≤ 16) (hrm : M0.1 30 (wA σ v) = nI q) (h31 : M0.1 31 = cm) (hl : ∀ d, d < 4 → M0.2.1 24 (v * 4 + d) = wL σ (v * 4 + d)) (hw : ∀ i, i < q → ∃ w, 1 ≤ w ∧ w ≤ 400 ∧ cm (7 * (16 * wA σ v + i) + 5) = nI w) :
    ∀ r i f M, i + r = q → r < f → OnL 37 M0 M → (∀ j, j < i → M.2.1 37 (16 * v + j) = timO cm σ v j) → ∃ M', f_X12_layOrder_19 k2 f (nI v) (nI (wA σ v)) (nI i) M = k2 (nI (v + 1)) M' ∧ OnL 37 M0 M' ∧ (∀ j, j < q → M'.2.1 37 (16 * v + j) = timO cm σ v j) ∧ ∀ j, j < 16 * v → M'.2.1 37 j = M.2.1 37 j := by
  intro r
  induction r with
  | zero =>
    intro i f M hi hf hO h1
    obtain ⟨f, rfl⟩ : ∃ z, f = z + 1 := ⟨f - 1, by omega⟩
    have : i = q := by omega
    subst this
    rw [f_X12_layOrder_19, ck40 hk, nI_clamp (by omega), hO.1, hrm, if_pos (nI_le (by omega) (by omega)), nI_1]
    exact ⟨M, rfl, hO, h1, fun _ _ => rfl⟩
  | succ r ih =>
    intro i f M hi hf hO h1
    obtain ⟨f, rfl⟩ : ∃ z, f = z + 1 := ⟨f - 1, by omega⟩
    obtain ⟨w, w1, w2, w3⟩ := hw i (by omega)
    have e31 : M.1 31 = cm := by rw [hO.1]; exact h31
    have e24 : ∀ d, d < 4 → M.2.1 24 (v * 4 + d) = wL σ (v * 4 + d) := fun d hd => by rw [hO.2.1 24 (by decide)]; exact hl d hd
    rw [f_X12_layOrder_19, ck40 hk, nI_clamp (by omega), hO.1, hrm, if_neg (nI_ge (by omega) (by omega))]
    unfold f_X12_rowAt
    rw [bq_s, i_n16, i_n7, pk_mul, nI_add, pk_mul, ck_nI (by omega) (by omega), nI_clamp (by omega), ← hO.1, i_n0, rt_m hv hk (by omega) rfl e31 e24 w1 w2 w3]
    obtain ⟨M', g1, g2, g3, g4⟩ := ih (i + 1) f (sL M 37 (16 * v + i) (timO cm σ v i)) (by omega) (by omega) (OnL_s hO) (fun j hj => by
      by_cases z : j = i
      · rw [z, sL_e, pk_uLs]
      · rw [sL_e, pk_uLn (by omega)]; exact h1 j (by omega))
    refine ⟨M', g1, g2, g3, fun j hj => ?_⟩
    rw [g4 j hj, sL_e, pk_uLn (by omega)]
theorem lo2 (hVM : VM σ M0) (hN : wN σ ≤ 400) (hk : ∀ v, v < wN σ → wA σ v < 40) (e30 : M0.1 30 = rm) (e31 : M0.1 31 = cm) (hq : ∀ v, v < wN σ → ∃ q, q ≤ 16 ∧ rm (wA σ v) = nI q ∧ ∀ i, i < q → ∃ w, 1 ≤ w ∧ w ≤ 400 ∧ cm (7 * (16 * wA σ v + i) + 5) = nI w) :
    ∀ r v f M, v + r = wN σ → r < f → OnL 37 M0 M → TmM rm cm σ M v → ∃ M', f_X12_layOrder_2 f (nI v) M = f_X12_layOrder_130 100000 0 M' ∧ OnL 37 M0 M' ∧ TmM rm cm σ M' (wN σ) := by
  intro r
  induction r with
  | zero =>
    intro v f M hv hf hO h1
    obtain ⟨f, rfl⟩ : ∃ z, f = z + 1 := ⟨f - 1, by omega⟩
    have : v = wN σ := by omega
    subst this
    rw [f_X12_layOrder_2, hO.1, hVM.1, if_pos (nI_le (by omega) (by omega))]
    exact ⟨M, rfl, hO, h1⟩
  | succ r ih =>
    intro v f M hv hf hO h1
    obtain ⟨f, rfl⟩ : ∃ z, f = z + 1 := ⟨f - 1, by omega⟩
    obtain ⟨q, q1, q2, q3⟩ := hq v (by omega)
    rw [f_X12_layOrder_2, hO.1, hVM.1, if_neg (nI_ge (by omega) (by omega)), ck_nI (by omega) (by omega), nI_clamp (by omega), hVM.2.1 v (by omega), i_n0]
    obtain ⟨M', g1, g2, g3, g4⟩ := lo19 (k2 := f_X12_layOrder_2 f) (M0 := M0) (cm := cm) (σ := σ) (v := v) (by omega) (hk v (by omega)) q1 (by rw [e30]; exact q2) e31 (fun d hd => hVM.2.2 _ (by omega)) q3 q 0 100000 M (by omega) (by omega) hO (fun j hj => absurd hj (by omega))
    rw [g1]
    refine ih (v + 1) f M' (by omega) (by omega) g2 (fun u hu i hi => ?_)
    by_cases z : u = v
    · subst z
      rw [q2, cN_n' (by omega)] at hi
      exact g3 i hi
    · obtain ⟨p, p1, p2, _⟩ := hq u (by omega)
      have hp : cN_ (rm (wA σ u)) = p := by rw [p2]; exact cN_n' (by omega)
      rw [g4 _ (by omega)]
      exact h1 u (by omega) i hi
/-- the reference lays the new order -/
theorem lay_m (hVM : VM σ M0) (hN : wN σ ≤ 400) (hk : ∀ v, v < wN σ → wA σ v < 40) (e30 : M0.1 30 = rm) (e31 : M0.1 31 = cm) (hq : ∀ v, v < wN σ → ∃ q, q ≤ 16 ∧ rm (wA σ v) = nI q ∧ ∀ i, i < q → ∃ w, 1 ≤ w ∧ w ≤ 400 ∧ cm (7 * (16 * wA σ v + i) + 5) = nI w) :
    ∃ M', f_X12_layOrder M0 = some M' ∧ MFr M0 M' ∧ VM σ M' ∧ QW (wN σ) (ahd rm cm σ) (M'.1 38) (M'.1 39) ∧ (∀ c, c ≠ 38 → c ≠ 39 → M'.1 c = M0.1 c) ∧ (∀ c, c ≠ 37 → M'.2.1 c = M0.2.1 c) ∧ M'.2.2 = M0.2.2 := by
  unfold f_X12_layOrder
  obtain ⟨M1, a1, a2, a3⟩ := lo2 (rm := rm) (cm := cm) hVM hN hk e30 e31 hq (wN σ) 0 100000 M0 (by omega) (by omega) (OnL_r 37 M0) (fun v hv => absurd hv (by omega))
  rw [i_n0, a1]
  have v1 : VM σ M1 := ⟨by rw [a2.1]; exact hVM.1, fun v hv => by rw [a2.1]; exact hVM.2.1 v hv, fun j hj => by rw [a2.2.1 24 (by decide)]; exact hVM.2.2 j hj⟩
  have hA : ∀ M, On 38 M1 M → ∀ v w, v < wN σ → w < wN σ → ∃ b, f_X12_isAhead M (nI v) (nI w) = some b ∧ (b = true ↔ ahd rm cm σ v w) := by
    intro M hO v w hv hw
    refine ah_eq (σ := σ) ⟨by rw [hO.1 106 (by decide)]; exact v1.1, fun v hv => by rw [hO.1 23 (by decide)]; exact v1.2.1 v hv, fun j hj => by rw [hO.2]; exact v1.2.2 j hj⟩ hN (fun v hv => ?_) (by rw [hO.1 30 (by decide), a2.1]; exact e30) hk (fun u hu i hi => by rw [hO.2]; exact a3 u hu i hi) hv hw
    obtain ⟨q, q1, q2, _⟩ := hq v hv
    exact ⟨q, q1, q2⟩
  obtain ⟨s, M2, b1, b2, b3, b4, b5⟩ := lo130 (Lin_a rm cm σ) hN v1.1 hA (wN σ) 0 100000 M1 (fun _ => 0) (by omega) (by omega) (On_r 38 M1) (fun i hi => absurd hi (by omega)) (fun i hi => absurd hi (by omega)) (fun i j _ hj => absurd hj (by omega))
  rw [i_n0, b1]
  obtain ⟨M3, c1, c2, c3⟩ := lo195 (M0 := M2) (s := s) (n := wN σ) hN (by rw [b2.1 106 (by decide)]; exact v1.1) b3 (fun i j hi hj e => by
    rcases Nat.lt_trichotomy i j with z | z | z
    · have := b5 i j z hj; rw [e] at this; exact absurd this (ahd_irr _)
    · exact z
    · have := b5 j i z hi; rw [e] at this; exact absurd this (ahd_irr _)) (wN σ) 0 100000 M2 (by omega) (by omega) (On_r 39 M2) (fun i hi => absurd hi (by omega))
  rw [i_n0, c1]
  have f1 : ∀ c, c ≠ 38 → c ≠ 39 → M3.1 c = M0.1 c := fun c x y => by rw [c2.1 c y, b2.1 c x, a2.1]
  have f2 : ∀ c, c ≠ 37 → M3.2.1 c = M0.2.1 c := fun c x => by rw [c2.2, b2.2, a2.2.1 c x]
  refine ⟨M3, rfl, ⟨fun c z => f1 c (by unfold mRl at z; omega) (by unfold mRl at z; omega), f2 22 (by decide), f2 105 (by decide)⟩, ⟨by rw [f1 106 (by decide) (by decide)]; exact hVM.1, fun v hv => by rw [f1 23 (by decide) (by decide)]; exact hVM.2.1 v hv, fun j hj => by rw [f2 24 (by decide)]; exact hVM.2.2 j hj⟩, QW_mk (s := s) hN (fun i hi => ⟨by rw [c2.1 38 (by decide)]; exact (b3 i hi).1, (b3 i hi).2, c3 i hi⟩) b4 b5, f1, f2, by rw [c2.2, b2.2, a2.2.2]⟩
end
