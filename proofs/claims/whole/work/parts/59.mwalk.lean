/-! the pure half: the reference's walk -/
theorem cpy_stepL (f g : Nat → Int64) (sp dp n : Nat) : va_cpy f (vp_updL g dp (f sp)) (sp + 1) (dp + 1) n = va_cpy f g sp dp (n + 1) := by
  funext j
  by_cases q : dp + 1 ≤ j ∧ j < dp + 1 + n
  · rw [pk_cpy_in q.1 q.2, pk_cpy_in (by omega) (by omega)]
    congr 1; omega
  · rw [pk_cpy_out (by omega)]
    by_cases g1 : j = dp
    · subst g1; rw [pk_uLs, pk_cpy_in (by omega) (by omega)]
      congr 1; omega
    · rw [pk_uLn g1, pk_cpy_out (by omega)]
section
variable {M : Mem} {c d sp dp n : Nat}
theorem yL_nil : yL M c sp d dp 0 = M := by unfold yL; rw [cpy_nil, up_self]
theorem yL_step (h : c ≠ d) : yL (sL M d dp (M.2.1 c sp)) c (sp + 1) d (dp + 1) n = yL M c sp d dp (n + 1) := by
  unfold yL
  rw [sL_e, sL_n h, cpy_stepL]
  unfold sL
  rw [bx_uu]
end
def FrM (M0 M : Mem) : Prop := (∀ c, c ≠ 23 → c ≠ 25 → c ≠ 26 → c ≠ 106 → c ≠ 107 → c ≠ 108 → M.1 c = M0.1 c) ∧ (∀ c, c ≠ 5 → c ≠ 24 → c ≠ 27 → M.2.1 c = M0.2.1 c) ∧ M.2.2 = M0.2.2
theorem FrM_r (M : Mem) : FrM M M := ⟨fun _ _ _ _ _ _ _ => rfl, fun _ _ _ _ => rfl, rfl⟩
theorem FrM_I {M0 M : Mem} {c k : Nat} {x : Int32} (h : FrM M0 M) (hc : c = 23 ∨ c = 25 ∨ c = 26 ∨ c = 106 ∨ c = 107 ∨ c = 108) : FrM M0 (sI M c k x) :=
  ⟨fun c' a b d e f g => by rw [sI_n (by omega)]; exact h.1 c' a b d e f g, h.2.1, h.2.2⟩
theorem FrM_L {M0 M : Mem} {c k : Nat} {x : Int64} (h : FrM M0 M) (hc : c = 5 ∨ c = 24 ∨ c = 27) : FrM M0 (sL M c k x) :=
  ⟨h.1, fun c' a b e => by rw [sL_n (by omega)]; exact h.2.1 c' a b e, h.2.2⟩
theorem FrM_y {M0 M : Mem} {c a b n : Nat} (h : FrM M0 M) : FrM M0 (yL M c a 24 b n) :=
  ⟨h.1, fun c' a b e => by rw [yL_n (by omega)]; exact h.2.1 c' a b e, h.2.2⟩
def WM (σ : Ws) (M : Mem) : Prop :=
  M.1 106 0 = nI (wN σ) ∧ M.1 107 0 = nI (wT σ) ∧ M.1 108 0 = bI false ∧ (∀ d, d < 4 → M.2.1 5 d = wH σ d) ∧ (∀ v, v < wN σ → M.1 23 v = nI (wA σ v)) ∧ (∀ j, j < wN σ * 4 → M.2.1 24 j = wL σ j) ∧ wN σ ≤ 400 ∧ wT σ ≤ 4000
def WMr (σ : Ws) (M : Mem) : Prop := (wS σ = true ∧ M.1 108 0 = bI true) ∨ (wS σ = false ∧ WM σ M)
theorem WM_I {σ : Ws} {M : Mem} {c k : Nat} {x : Int32} (h : WM σ M) (hc : c = 25 ∨ c = 26) : WM σ (sI M c k x) := by
  obtain ⟨a1, a2, a3, a4, a5, a6, a7, a8⟩ := h
  refine ⟨?_, ?_, ?_, a4, fun v hv => ?_, a6, a7, a8⟩
  · rw [sI_n (by omega)]; exact a1
  · rw [sI_n (by omega)]; exact a2
  · rw [sI_n (by omega)]; exact a3
  · rw [sI_n (by omega)]; exact a5 v hv
theorem WM_27 {σ : Ws} {M : Mem} {k : Nat} {x : Int64} (h : WM σ M) : WM σ (sL M 27 k x) := by
  obtain ⟨a1, a2, a3, a4, a5, a6, a7, a8⟩ := h
  exact ⟨a1, a2, a3, fun d hd => by rw [sL_n (by decide)]; exact a4 d hd, a5, fun j hj => by rw [sL_n (by decide)]; exact a6 j hj, a7, a8⟩
theorem nextIn_eq {M : Mem} {n : Nat} (hn : M.1 102 0 = nI n) (h40 : n ≤ 40) (p : Int32) : ∀ m c fuel, c + m = n → m < fuel → f_X12_nextIn_2 fuel p (nI c) M = some (nI (nx (M.1 7) p m c)) := by
  intro m
  induction m with
  | zero =>
    intro c fuel hc hf
    obtain ⟨f, rfl⟩ : ∃ f, fuel = f + 1 := ⟨fuel - 1, by omega⟩
    rw [f_X12_nextIn_2, hn, if_pos (nI_le (by omega) (by omega))]
    rfl
  | succ m ih =>
    intro c fuel hc hf
    obtain ⟨f, rfl⟩ : ∃ f, fuel = f + 1 := ⟨fuel - 1, by omega⟩
    rw [f_X12_nextIn_2, hn, if_neg (nI_ge (by omega) (by omega)), ck_nI (by omega) (by omega), nI_clamp (by omega), nI_1]
    unfold nx
    by_cases q : M.1 7 c = p
    · rw [if_pos q, if_pos q]
    · rw [if_neg q, if_neg q]; exact ih (c + 1) f (by omega) (by omega)
theorem nxI_eq {M : Mem} {n c : Nat} (hn : M.1 102 0 = nI n) (h40 : n ≤ 40) (hc : c ≤ n) (p : Int32) : f_X12_nextIn M p (nI c) = some (nI (nx (M.1 7) p (n - c) c)) :=
  nextIn_eq hn h40 p (n - c) c 100000 (by omega) (by omega)
theorem turns_eq {M : Mem} {e k d T : Nat} {v t : Int64} (he : e < 41) (h25 : M.1 25 e = nI k) (hk : k < 40) (h8 : M.1 8 k = nI d) (hd : d < 4) (hv : M.2.1 5 d = v) (ht : M.2.1 27 e = t) (hT : M.1 107 0 = nI T) (hT4 : T ≤ 4000) (h108 : M.1 108 0 = bI false) :
    f_X12_turns M (nI e) = some (if v ≤ t then (true, sI (sI M 107 0 (nI (T + 1))) 108 0 (bI (decide (4000 < T + 1)))) else (false, M)) := by
  unfold f_X12_turns
  rw [ck_nI he (by omega), nI_clamp (by omega), h25, ck_nI hk (by omega), nI_clamp (by omega), h8, ck_nI hd (by omega), ck_nI he (by omega), nI_clamp (by omega), hv, ht, hT, nI_1]
  by_cases q : v ≤ t
  · rw [if_pos q, if_pos q, sI_n (by decide), h108, zb_b, bF, sI_e, pk_us]
    by_cases z : 4000 < T + 1
    · rw [if_neg (show ¬ nI (T + 1) ≤ 4000 from nI_ge (a := 4000) (b := T + 1) z (by omega)), decide_eq_true z]
    · rw [if_pos (show nI (T + 1) ≤ 4000 from nI_le (a := T + 1) (b := 4000) (by omega) (by omega)), decide_eq_false z]
  · rw [if_neg q, if_neg q]
theorem see_loop {k l n : Nat} (hk : k < 40) (hl : l ≤ 4) (hn : n < 400) : ∀ m x fuel M, x + m = 4 → m < fuel → M.1 106 0 = nI n → M.1 8 k = nI l → (∀ d, l ≤ d → d < 4 → M.2.1 5 d = 0) → f_X12_see_28 fuel (nI k) (nI x) M = some (sI (yL M 5 x 24 (4 * n + x) m) 106 0 (nI (n + 1))) := by
  intro m
  induction m with
  | zero =>
    intro x fuel M hx hf h1 h2 h3
    obtain ⟨f, rfl⟩ : ∃ f, fuel = f + 1 := ⟨fuel - 1, by omega⟩
    have e : x = 4 := by omega
    subst e
    rw [f_X12_see_28, if_pos (by decide), yL_nil, h1, nI_1]
  | succ m ih =>
    intro x fuel M hx hf h1 h2 h3
    obtain ⟨f, rfl⟩ : ∃ f, fuel = f + 1 := ⟨fuel - 1, by omega⟩
    rw [f_X12_see_28, i_n4, if_neg (nI_ge (by omega) (by omega)), ck_nI hk (by omega), nI_clamp (by omega), h2, h1, pk_mul, nI_add, ck_nI (by omega) (by omega), ck_nI (by omega) (by omega), ck_nI (by omega) (by omega), nI_clamp (by omega), nI_clamp (by omega), nI_1]
    have st : f_X12_see_28 f (nI k) (nI (x + 1)) (sL M 24 (4 * n + x) (M.2.1 5 x)) = some (sI (yL M 5 x 24 (4 * n + x) (m + 1)) 106 0 (nI (n + 1))) := by
      rw [ih (x + 1) f (sL M 24 (4 * n + x) (M.2.1 5 x)) (by omega) (by omega) h1 h2 (fun d a b => by rw [sL_n (by decide)]; exact h3 d a b), ← Nat.add_assoc, yL_step (by decide)]
    by_cases q : l ≤ x
    · rw [if_pos (nI_le q (by omega)), ← h3 x q (by omega)]; exact st
    · rw [if_neg (nI_ge (by omega) (by omega))]; exact st
theorem see_ok {M0 M : Mem} {σ : Ws} {k l : Nat} (hk : k < 40) (hl : l ≤ 4) (h8 : M.1 8 k = nI l) (hz : Zw l σ) (hs : wS σ = false) (h : WM σ M) (hF : FrM M0 M) :
    ∃ M', f_X12_see M (nI k) = some M' ∧ WMr (seeW k σ) M' ∧ FrM M0 M' ∧ M'.1 25 = M.1 25 ∧ M'.1 26 = M.1 26 ∧ M'.2.1 27 = M.2.1 27 := by
  obtain ⟨a1, a2, a3, a4, a5, a6, a7, a8⟩ := h
  unfold f_X12_see seeW
  rw [a1]
  by_cases q : wN σ < 400
  · rw [if_neg (show ¬ nI (wN σ) = 400 from fun z => by have := nI_inj (b := 400) (by omega) (by omega) z; omega), if_pos q, ck_nI (by omega) (by omega), nI_clamp (by omega), i_n0]
    have e106 : (sI M 23 (wN σ) (nI k)).1 106 0 = nI (wN σ) := by rw [sI_n (by decide)]; exact a1
    have e8 : (sI M 23 (wN σ) (nI k)).1 8 k = nI l := by rw [sI_n (by decide)]; exact h8
    rw [see_loop hk hl q 4 0 100000 _ (by omega) (by omega) e106 e8 (fun d a b => by rw [sI_2, a4 d b]; exact hz d a b)]
    refine ⟨_, rfl, .inr ⟨hs, ?_, ?_, ?_, ?_, ?_, ?_, ?_, ?_⟩, FrM_I (FrM_y (FrM_I hF (by decide))) (by decide), ?_, ?_, ?_⟩
    · rw [sI_e, pk_us]
    · rw [sI_n (by decide), yL_1, sI_n (by decide)]; exact a2
    · rw [sI_n (by decide), yL_1, sI_n (by decide)]; exact a3
    · intro d hd
      rw [sI_2, yL_n (by decide), sI_2]; exact a4 d hd
    · intro v hv
      show (sI (yL (sI M 23 (wN σ) (nI k)) 5 0 24 (4 * wN σ + 0) 4) 106 0 _).1 23 v = nI (va_up (wA σ) (wN σ) k v)
      rw [sI_n (by decide), yL_1, sI_e]
      by_cases z : v = wN σ
      · rw [z, pk_us, va_up_self]
      · rw [pk_un z, va_up_ne _ _ z]; exact a5 v (by have : v < wN σ + 1 := hv; omega)
    · intro j hj
      have hj' : j < (wN σ + 1) * 4 := hj
      show (sI (yL (sI M 23 (wN σ) (nI k)) 5 0 24 (4 * wN σ + 0) 4) 106 0 _).2.1 24 j = va_cpy (wH σ) (wL σ) 0 (wN σ * 4) 4 j
      rw [sI_2, yL_e, sI_2]
      by_cases z : wN σ * 4 ≤ j
      · rw [pk_cpy_in (by omega) (by omega), pk_cpy_in z (by omega), a4 _ (by omega)]
        congr 1; omega
      · rw [pk_cpy_out (by omega), pk_cpy_out (by omega)]; exact a6 j (by omega)
    · show wN σ + 1 ≤ 400
      omega
    · exact a8
    · rw [sI_n (by decide), yL_1, sI_n (by decide)]
    · rw [sI_n (by decide), yL_1, sI_n (by decide)]
    · rw [sI_2, yL_n (by decide), sI_2]
  · have e : wN σ = 400 := by omega
    rw [e, if_pos (show nI 400 = 400 from rfl), if_neg (by omega)]
    refine ⟨_, rfl, .inl ⟨rfl, ?_⟩, FrM_I hF (by decide), ?_, ?_, rfl⟩
    · rw [sI_e, pk_us]
    · rw [sI_n (by decide)]
    · rw [sI_n (by decide)]
/-- from M the loop comes to M' in K turns, at depth e -/
def Rn (K : Nat) (e : Nat) (M : Mem) (e' : Nat) (M' : Mem) : Prop := ∀ N, f_X12_walk_58 (N + 1 + K) (nI e) M = f_X12_walk_58 (N + 1) (nI e') M'
theorem Rn_r (e : Nat) (M : Mem) : Rn 0 e M e M := fun _ => rfl
theorem Rn_t {K1 K2 e1 e2 e3 : Nat} {M1 M2 M3 : Mem} (h1 : Rn K1 e1 M1 e2 M2) (h2 : Rn K2 e2 M2 e3 M3) : Rn (K2 + K1) e1 M1 e3 M3 := by
  intro N
  have a := h1 (N + K2)
  have b := h2 N
  rw [show N + 1 + (K2 + K1) = N + K2 + 1 + K1 by omega, a, show N + K2 + 1 = N + 1 + K2 by omega, b]
theorem Rn_1 {e e' : Nat} {M M' : Mem} (h : ∀ N, f_X12_walk_58 (N + 1) (nI e) M = f_X12_walk_58 N (nI e') M') : Rn 1 e M e' M' := fun N => h (N + 1)
/-- a spent walk ends, at any depth -/
theorem f58_spent {e N : Nat} {M : Mem} (he : e < 41) (h : M.1 108 0 = bI true) : f_X12_walk_58 (N + 1) (nI e) M = some (true, M) := by
  rw [f_X12_walk_58, if_neg (nI_pos (by omega)), h, zb_b, bT]
theorem Rn_spent {K e e' e'' : Nat} {M M' : Mem} (h : Rn K e M e' M') (he : e' < 41) (he2 : e'' < 41) (hs : M'.1 108 0 = bI true) : Rn K e M e'' M' := by
  intro N
  rw [h N, f58_spent he hs, f58_spent he2 hs]
