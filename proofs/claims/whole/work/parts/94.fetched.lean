/-! the pure half: what is fetched -/
def FC (M M' : Mem) : Prop := (∀ c, c ≠ 64 → c ≠ 125 → M'.1 c = M.1 c) ∧ (∀ c, c ≠ 65 → c ≠ 66 → M'.2.1 c = M.2.1 c) ∧ M'.2.2 = M.2.2
def FM (M M' : Mem) : Prop := (∀ c, c ≠ 41 → c ≠ 115 → M'.1 c = M.1 c) ∧ (∀ c, c ≠ 42 → c ≠ 43 → M'.2.1 c = M.2.1 c) ∧ M'.2.2 = M.2.2
theorem FC_r (M : Mem) : FC M M := ⟨fun _ _ _ => rfl, fun _ _ _ => rfl, rfl⟩
theorem FM_r (M : Mem) : FM M M := ⟨fun _ _ _ => rfl, fun _ _ _ => rfl, rfl⟩
theorem FC_t {M M1 M2 : Mem} (h : FC M M1) (g : FC M1 M2) : FC M M2 := ⟨fun c x y => (g.1 c x y).trans (h.1 c x y), fun c x y => (g.2.1 c x y).trans (h.2.1 c x y), g.2.2.trans h.2.2⟩
theorem FM_t {M M1 M2 : Mem} (h : FM M M1) (g : FM M1 M2) : FM M M2 := ⟨fun c x y => (g.1 c x y).trans (h.1 c x y), fun c x y => (g.2.1 c x y).trans (h.2.1 c x y), g.2.2.trans h.2.2⟩
theorem FC_3 {M : Mem} {i j k : Nat} {x : Int32} {y z : Int64} : FC M (sL (sL (sI M 64 i x) 65 j y) 66 k z) := ⟨fun c a b => by rw [sL_1, sL_1, sI_n a], fun c a b => by rw [sL_n b, sL_n a, sI_2], rfl⟩
theorem FM_3 {M : Mem} {i j k : Nat} {x : Int32} {y z : Int64} : FM M (sL (sL (sI M 41 i x) 42 j y) 43 k z) := ⟨fun c a b => by rw [sL_1, sL_1, sI_n a], fun c a b => by rw [sL_n b, sL_n a, sI_2], rfl⟩
theorem FC_1 {M : Mem} {x : Int32} : FC M (sI M 125 0 x) := ⟨fun c a b => sI_n b, fun _ _ _ => rfl, rfl⟩
theorem FM_1 {M : Mem} {x : Int32} : FM M (sI M 115 0 x) := ⟨fun c a b => sI_n b, fun _ _ _ => rfl, rfl⟩
def piE (Mc Mm : Mem) (i : Nat) : Prop := Mc.1 64 i = Mm.1 41 i ∧ Mc.2.1 65 i = Mm.2.1 42 i ∧ Mc.2.1 66 i = Mm.2.1 43 i
/-- both rooms hold the same m pieces -/
def RM (n m : Nat) (Mc Mm : Mem) : Prop := Mc.1 125 0 = nI m ∧ Mm.1 115 0 = nI m ∧ m ≤ n ∧ Mc.1 124 0 = nI n ∧ ∀ i, i < m → piE Mc Mm i
section
variable {a : Int32} {r p : Int64} {b : Bool}
theorem shf {m : Nat} (hm : m ≤ 16) : ∀ k f f' Mc Mm, k < 16 → k < f → k < f' → (∀ i, i < m → i ≠ k → piE Mc Mm i) →
    ∃ Mc' Mm', f_X6_bring_109 f a r p b (nI k) Mc = some (b, Mc') ∧ f_X12_fetches_112 f' a r p b (nI k) Mm = some (b, Mm') ∧ FC Mc Mc' ∧ FM Mm Mm' ∧ Mc'.1 125 = Mc.1 125 ∧ Mm'.1 115 = Mm.1 115 ∧ ∀ i, i < m → piE Mc' Mm' i := by
  have e0 : (0 : Int32).toNatClampNeg = 0 := by decide
  intro k
  induction k with
  | zero =>
    intro f f' Mc Mm hk hf hf' h
    obtain ⟨f, rfl⟩ : ∃ z, f = z + 1 := ⟨f - 1, by omega⟩
    obtain ⟨f', rfl⟩ : ∃ z, f' = z + 1 := ⟨f' - 1, by omega⟩
    rw [f_X6_bring_109, f_X12_fetches_112, if_pos (show nI 0 ≤ 0 by decide), if_pos (show nI 0 ≤ 0 by decide), e0, i_n0]
    simp only [ck_nI (show 0 < 16 by decide) (by decide : (16 : Nat) < 2 ^ 31), ck_nI (show 0 < 17 by decide) (by decide : (17 : Nat) < 2 ^ 31)]
    refine ⟨_, _, rfl, rfl, FC_3, FM_3, by rw [sL_1, sL_1, sI_n (show (125 : Nat) ≠ 64 by decide)], by rw [sL_1, sL_1, sI_n (show (115 : Nat) ≠ 41 by decide)], fun i hi => ?_⟩
    unfold piE
    rw [sL_1, sL_1, sL_1, sL_1, sI_e, sI_e, sL_e, sL_e, sL_n (show (65 : Nat) ≠ 66 by decide), sL_e, sL_n (show (42 : Nat) ≠ 43 by decide), sL_e]
    by_cases z : i = 0
    · rw [z, pk_us, pk_us, pk_uLs, pk_uLs, pk_uLs, pk_uLs]; exact ⟨rfl, rfl, rfl⟩
    · obtain ⟨q1, q2, q3⟩ := h i hi z
      rw [pk_un z, pk_un z, pk_uLn z, pk_uLn z, pk_uLn z, pk_uLn z, sL_n (by decide), sL_n (by decide)]; exact ⟨q1, q2, q3⟩
  | succ k ih =>
    intro f f' Mc Mm hk hf hf' h
    obtain ⟨f, rfl⟩ : ∃ z, f = z + 1 := ⟨f - 1, by omega⟩
    obtain ⟨f', rfl⟩ : ∃ z, f' = z + 1 := ⟨f' - 1, by omega⟩
    rw [f_X6_bring_109, f_X12_fetches_112, if_neg (nI_nle (by omega) (by omega)), if_neg (nI_nle (by omega) (by omega)), nI_pred, pk_m1]
    simp only [ck_nI (show k < 16 by omega) (by decide : (16 : Nat) < 2 ^ 31), ck_nI (show k + 1 < 16 by omega) (by decide : (16 : Nat) < 2 ^ 31), ck_nI (show k < 17 by omega) (by decide : (17 : Nat) < 2 ^ 31), ck_nI (show k + 1 < 17 by omega) (by decide : (17 : Nat) < 2 ^ 31), nI_clamp (show k < 2 ^ 31 by omega), nI_clamp (show k + 1 < 2 ^ 31 by omega)]
    rw [sI_2, sL_n (show (66 : Nat) ≠ 65 by decide), sI_2, sI_2, sL_n (show (43 : Nat) ≠ 42 by decide), sI_2]
    obtain ⟨Mc', Mm', g1, g2, g3, g4, g5, g6, g7⟩ := ih f f' (sL (sL (sI Mc 64 (k + 1) (Mc.1 64 k)) 65 (k + 1) (Mc.2.1 65 k)) 66 (k + 1) (Mc.2.1 66 k)) (sL (sL (sI Mm 41 (k + 1) (Mm.1 41 k)) 42 (k + 1) (Mm.2.1 42 k)) 43 (k + 1) (Mm.2.1 43 k)) (by omega) (by omega) (by omega) (fun i hi hn => by
      unfold piE
      rw [sL_1, sL_1, sL_1, sL_1, sI_e, sI_e, sL_e, sL_e, sL_n (show (65 : Nat) ≠ 66 by decide), sL_e, sL_n (show (42 : Nat) ≠ 43 by decide), sL_e]
      by_cases z : i = k + 1
      · obtain ⟨q1, q2, q3⟩ := h k (by omega) (by omega)
        rw [z, pk_us, pk_us, pk_uLs, pk_uLs, pk_uLs, pk_uLs]; exact ⟨q1, q2, q3⟩
      · obtain ⟨q1, q2, q3⟩ := h i hi z
        rw [pk_un z, pk_un z, pk_uLn z, pk_uLn z, pk_uLn z, pk_uLn z, sL_n (by decide), sL_n (by decide)]; exact ⟨q1, q2, q3⟩)
    exact ⟨Mc', Mm', g1, g2, FC_t FC_3 g3, FM_t FM_3 g4, by rw [g5, sL_1, sL_1, sI_n (show (125 : Nat) ≠ 64 by decide)], by rw [g6, sL_1, sL_1, sI_n (show (115 : Nat) ≠ 41 by decide)], g7⟩
theorem bring2 {n m : Nat} {Mc Mm : Mem} (h1 : 1 ≤ n) (h16 : n ≤ 16) (hR : RM n m Mc Mm) : ∃ b m' Mc' Mm', f_X6_bring Mc a r p = some (b, Mc') ∧ f_X12_fetches Mm a r p (nI n) = some (b, Mm') ∧ FC Mc Mc' ∧ FM Mm Mm' ∧ RM n m' Mc' Mm' := by
  obtain ⟨r1, r2, r3, r4, r5⟩ := hR
  have scan : ∀ q x f f', x + q = m → q < f → q < f' → ∃ y, x ≤ y ∧ y ≤ m ∧ f_X6_bring_3 f a r p (nI x) Mc = f_X6_bring_54 a r p (nI y) Mc ∧ f_X12_fetches_3 f' a r p (nI n) (nI x) Mm = f_X12_fetches_54 a r p (nI n) (nI y) Mm := by
    intro q
    induction q with
    | zero =>
      intro x f f' hx hf hf'
      obtain ⟨f, rfl⟩ : ∃ z, f = z + 1 := ⟨f - 1, by omega⟩
      obtain ⟨f', rfl⟩ : ∃ z, f' = z + 1 := ⟨f' - 1, by omega⟩
      rw [f_X6_bring_3, f_X12_fetches_3, r1, r2, if_pos (nI_le (by omega) (by omega)), if_pos (nI_le (by omega) (by omega))]
      exact ⟨x, by omega, by omega, rfl, rfl⟩
    | succ q ih =>
      intro x f f' hx hf hf'
      obtain ⟨f, rfl⟩ : ∃ z, f = z + 1 := ⟨f - 1, by omega⟩
      obtain ⟨f', rfl⟩ : ∃ z, f' = z + 1 := ⟨f' - 1, by omega⟩
      obtain ⟨q1, q2, q3⟩ := r5 x (by omega)
      obtain ⟨y, y1, y2, y3, y4⟩ := ih (x + 1) f f' (by omega) (by omega) (by omega)
      rw [f_X6_bring_3, f_X12_fetches_3, r1, r2, if_neg (nI_ge (by omega) (by omega)), if_neg (nI_ge (by omega) (by omega))]
      simp only [ck_nI (show x < 16 by omega) (by decide : (16 : Nat) < 2 ^ 31), ck_nI (show x < 17 by omega) (by decide : (17 : Nat) < 2 ^ 31), nI_clamp (show x < 2 ^ 31 by omega)]
      rw [q1, q2, q3, nI_1]
      by_cases z1 : Mm.1 41 x = a
      · rw [if_pos z1, if_pos z1]
        by_cases z2 : Mm.2.1 42 x = r
        · rw [if_pos z2, if_pos z2]
          by_cases z3 : Mm.2.1 43 x = p
          · rw [if_pos z3, if_pos z3]; exact ⟨x, by omega, by omega, rfl, rfl⟩
          · rw [if_neg z3, if_neg z3]; exact ⟨y, by omega, y2, y3, y4⟩
        · rw [if_neg z2, if_neg z2]; exact ⟨y, by omega, y2, y3, y4⟩
      · rw [if_neg z1, if_neg z1]; exact ⟨y, by omega, y2, y3, y4⟩
  obtain ⟨y, y1, y2, y3, y4⟩ := scan m 0 100000 100000 (by omega) (by omega) (by omega)
  unfold f_X6_bring f_X12_fetches
  rw [i_n0, y3, y4]
  unfold f_X6_bring_54 f_X12_fetches_54 f_X6_bring_68 f_X12_fetches_68
  rw [r1, r2]
  by_cases q : y = m
  · rw [if_neg (nI_nlt (by omega) (by omega)), if_pos (show nI y = nI m by rw [q]), bT, bT, r4]
    by_cases z : n ≤ m
    · rw [if_pos (nI_le z (by omega)), if_pos (nI_le z (by omega))]
      unfold f_X6_bring_96 f_X12_fetches_94 f_J9_min_7cf53
      obtain ⟨k, hk⟩ : ∃ k, m = k + 1 := ⟨m - 1, by omega⟩
      rw [bT, r1, r2, hk, nI_pred, if_pos (nI_lt (by omega) (by omega)), bq_s]
      obtain ⟨Mc', Mm', g1, g2, g3, g4, g5, g6, g7⟩ := shf (a := a) (r := r) (p := p) (b := true) (m := k + 1) (by omega) k 100000 100000 Mc Mm (by omega) (by omega) (by omega) (fun i hi _ => r5 i (by omega))
      rw [← hk] at g7
      exact ⟨true, m, Mc', Mm', g1, g2, g3, g4, by rw [g5]; exact r1, by rw [g6]; exact r2, r3, by rw [g3.1 124 (by decide) (by decide)]; exact r4, g7⟩
    · rw [if_neg (nI_ge (by omega) (by omega)), if_neg (nI_ge (by omega) (by omega))]
      unfold f_X6_bring_96 f_X12_fetches_94 f_J9_min_7cf53
      rw [bT, sI_e, pk_us, sI_e, pk_us, nI_1, nI_pred, if_neg (nI_nlt (by omega) (by omega)), bq_s, q]
      obtain ⟨Mc', Mm', g1, g2, g3, g4, g5, g6, g7⟩ := shf (a := a) (r := r) (p := p) (b := true) (m := m + 1) (by omega) m 100000 100000 (sI Mc 125 0 (nI (m + 1))) (sI Mm 115 0 (nI (m + 1))) (by omega) (by omega) (by omega) (fun i hi hn => by
        unfold piE
        rw [sI_n (by decide), sI_n (by decide), sI_2, sI_2]; exact r5 i (by omega))
      refine ⟨true, m + 1, Mc', Mm', g1, g2, FC_t FC_1 g3, FM_t FM_1 g4, by rw [g5, sI_e, pk_us], by rw [g6, sI_e, pk_us], by omega, ?_, g7⟩
      rw [g3.1 124 (by decide) (by decide), sI_n (by decide)]; exact r4
  · rw [if_pos (nI_lt (by omega) (by omega)), if_neg (fun z => q (nI_inj (by omega) (by omega) z)), bF, bF]
    unfold f_X6_bring_96 f_X12_fetches_94 f_J9_min_7cf53
    obtain ⟨k, hk⟩ : ∃ k, m = k + 1 := ⟨m - 1, by omega⟩
    rw [bF, r1, hk, nI_pred, if_neg (nI_nlt (by omega) (by omega)), bq_s]
    obtain ⟨Mc', Mm', g1, g2, g3, g4, g5, g6, g7⟩ := shf (a := a) (r := r) (p := p) (b := false) (m := m) (by omega) y 100000 100000 Mc Mm (by omega) (by omega) (by omega) (fun i hi _ => r5 i hi)
    exact ⟨false, m, Mc', Mm', g1, g2, g3, g4, by rw [g5]; exact r1, by rw [g6]; exact r2, r3, by rw [g3.1 124 (by decide) (by decide)]; exact r4, g7⟩
end
/-- what both look at -/
def CS (N : Nat) (T : Tc) (s : Nat → Nat) (M : Mem) : Prop := N ≤ 400 ∧ M.1 110 0 = nI N ∧ TcC N T M ∧ (∀ v, v < N → ∀ k, k < 3 → T.1 v k ≠ -9 → M.2.1 39 (v * 3 + k) = T.2.1 v k ∧ M.2.1 40 (v * 3 + k) = T.2.2 v k) ∧ ∀ i, i < N → M.1 57 i = nI (s i) ∧ s i < N
def MS (σ : Ws) (T : Tc) (s : Nat → Nat) (M : Mem) : Prop := VM σ M ∧ TM σ T M ∧ (∀ v, v < wN σ → wA σ v < 40) ∧ ∀ i, i < wN σ → M.1 38 i = nI (s i)
theorem CS_f {N : Nat} {T : Tc} {s : Nat → Nat} {M M' : Mem} (h : CS N T s M) (g : FC M M') : CS N T s M' := by
  unfold CS TcC at *
  rw [g.1 110 (by decide) (by decide), g.1 35 (by decide) (by decide), g.1 18 (by decide) (by decide), g.1 19 (by decide) (by decide), g.1 20 (by decide) (by decide), g.1 2 (by decide) (by decide), g.1 4 (by decide) (by decide), g.1 57 (by decide) (by decide), g.2.1 36 (by decide) (by decide), g.2.1 39 (by decide) (by decide), g.2.1 40 (by decide) (by decide)]; exact h
theorem MS_f {σ : Ws} {T : Tc} {s : Nat → Nat} {M M' : Mem} (h : MS σ T s M) (g : FM M M') : MS σ T s M' := by
  unfold MS VM TM at *
  rw [g.1 106 (by decide) (by decide), g.1 23 (by decide) (by decide), g.1 11 (by decide) (by decide), g.1 38 (by decide) (by decide), g.2.1 24 (by decide) (by decide), g.2.1 28 (by decide) (by decide), g.2.1 29 (by decide) (by decide)]; exact h
section
variable {σ : Ws} {T : Tc} {s : Nat → Nat} {n w : Nat}
theorem fb2 {k10 : Int32 → Int32 → Int32 → Int32 → Mem → Option (Int32 × Mem)} {m i v kk : Nat} {Mc Mm : Mem} (h1 : 1 ≤ n) (h16 : n ≤ 16) (w1 : 1 ≤ w) (w20 : w ≤ 20) (hC : CS (wN σ) T s Mc) (hM : MS σ T s Mm) (hR : RM n m Mc Mm) (hv : v < wN σ) (hk : kk < 4) :
    ∃ c m' Mc' Mm', c ≤ 1 ∧ f_X11_fetchBy Mc (nI v) (nI (kk % 3)) (nI w) = some (nI c, Mc') ∧ (∀ f x, f_X12_fetchedMany_31 k10 (f + 1) (nI n) (nI w) x (nI i) (nI v) (nI kk) Mm = f_X12_fetchedMany_31 k10 f (nI n) (nI w) (x + nI c) (nI i) (nI v) (nI (kk + 1)) Mm') ∧ FC Mc Mc' ∧ FM Mm Mm' ∧ RM n m' Mc' Mm' := by
  obtain ⟨c1, c2, c3, c4, c5⟩ := hC
  obtain ⟨d1, d2, d3, d4⟩ := hM
  have k3 : kk % 3 < 3 := Nat.mod_lt _ (by omega)
  have kv := d3 v hv
  obtain ⟨t1, t2⟩ := d2 v (kk % 3) hv k3
  have rem : nI kk - nI kk / 3 * 3 = nI (kk % 3) := pk_rem (show kk < 2 ^ 31 by omega) (show 0 < 3 by decide) (show 3 < 2 ^ 31 by decide)
  have ha : f_X12_hasAim Mm (nI v) (nI (kk % 3)) = some (if T.1 v (kk % 3) = -9 then false else true) := by
    unfold f_X12_hasAim
    rw [ck_nI (by omega) (by omega), nI_clamp (by omega), d1.2.1 v hv, i_n3, pk_mul, nI_add, ck_nI (by omega) (by omega), nI_clamp (by omega), t1]
    by_cases z : T.1 v (kk % 3) = -9
    · rw [if_pos z, if_pos z]
    · rw [if_neg z, if_neg z]
  have rk : T.1 v (kk % 3) = -9 ∨ ∃ r, r < 8 ∧ T.1 v (kk % 3) = nI r := by
    obtain ⟨_, _, _, _, z⟩ := c3 v hv (kk % 3) k3
    rcases z with z | ⟨z, _⟩
    · exact .inl z
    · exact .inr z
  unfold f_X11_fetchBy
  rw [aA_eq c1 c3 hv k3, bq_s]
  rcases rk with q | ⟨r, r1, r2⟩
  · rw [if_pos (by rw [q]; decide)]
    refine ⟨0, m, Mc, Mm, by omega, rfl, fun f x => ?_, FC_r Mc, FM_r Mm, hR⟩
    rw [f_X12_fetchedMany_31, i_n4, if_neg (nI_ge (by omega) (by omega)), nzI_3, rem, ha, if_pos q, bq_s, bF, nI_1, show x + nI 0 = x from Int32.add_zero x]
  · have n9 : T.1 v (kk % 3) ≠ -9 := by rw [r2]; exact nN9 (by omega)
    obtain ⟨e1, e2⟩ := c4 v hv (kk % 3) k3 n9
    obtain ⟨e3, e4⟩ := t2 n9
    rw [if_neg (by rw [r2]; exact nI_pos (by omega)), if_pos (show (0 : Int32) < nI w from nI_lt (a := 0) (by omega) (by omega)), i_n3, pk_mul, nI_add, ck_nI (by omega) (by omega), ck_nI (by omega) (by omega), nI_clamp (by omega), nI_l (by omega), fd_eq (by omega) (by omega), bq_s, e1, e2]
    obtain ⟨b, m', Mc', Mm', b1, b2, b3, b4, b5⟩ := bring2 (a := T.1 v (kk % 3)) (r := T.2.1 v (kk % 3)) (p := cutD (T.2.2 v (kk % 3)) (lN w)) h1 h16 hR
    rw [b1, bd_s]
    have mm : ∀ f x, f_X12_fetchedMany_31 k10 (f + 1) (nI n) (nI w) x (nI i) (nI v) (nI kk) Mm = if b = true then f_X12_fetchedMany_31 k10 f (nI n) (nI w) (x + 1) (nI i) (nI v) (nI (kk + 1)) Mm' else f_X12_fetchedMany_31 k10 f (nI n) (nI w) (x + 0) (nI i) (nI v) (nI (kk + 1)) Mm' := by
      intro f x
      rw [f_X12_fetchedMany_31, i_n4, if_neg (nI_ge (by omega) (by omega)), nzI_3, rem, ha, if_neg n9, bq_s, bT, ck_nI (by omega) (by omega), nI_clamp (by omega), d1.2.1 v hv, i_n3, pk_mul, pk_mul, nI_add, nI_add, ck_nI (by omega) (by omega), ck_nI (by omega) (by omega), ck_nI (by omega) (by omega), nI_clamp (by omega), nI_clamp (by omega), cd_eq (by omega) (by omega), bq_s, e3, e4, t1, nI_l (by omega), b2, bd_s, nI_1]
    cases b with
    | true => exact ⟨1, m', Mc', Mm', by omega, rfl, fun f x => by rw [mm, bT]; rfl, b3, b4, b5⟩
    | false => exact ⟨0, m', Mc', Mm', by omega, rfl, fun f x => by rw [mm, bF]; rfl, b3, b4, b5⟩
theorem fetch2 (h1 : 1 ≤ n) (h16 : n ≤ 16) (w1 : 1 ≤ w) (w20 : w ≤ 20) :
    ∀ r i f f' x m Mc Mm, i + r = wN σ → r < f → r < f' → CS (wN σ) T s Mc → MS σ T s Mm → RM n m Mc Mm → x ≤ 3 * i →
    ∃ x' Mc' Mm', f_X11_countFetched_27 f (nI w) (nI x) (nI i) Mc = some (nI x', Mc') ∧ f_X12_fetchedMany_10 f' (nI n) (nI w) (nI x) (nI i) Mm = some (nI x', Mm') ∧ FC Mc Mc' ∧ FM Mm Mm' ∧ x' ≤ 1200 := by
  intro r
  induction r with
  | zero =>
    intro i f f' x m Mc Mm hi hf hf' hC hM hR hx
    obtain ⟨f, rfl⟩ : ∃ z, f = z + 1 := ⟨f - 1, by omega⟩
    obtain ⟨f', rfl⟩ : ∃ z, f' = z + 1 := ⟨f' - 1, by omega⟩
    have hN := hC.1
    rw [f_X11_countFetched_27, f_X12_fetchedMany_10, hC.2.1, hM.1.1, if_pos (nI_le (by omega) (by omega)), if_pos (nI_le (by omega) (by omega))]
    exact ⟨x, Mc, Mm, rfl, rfl, FC_r Mc, FM_r Mm, by omega⟩
  | succ r ih =>
    intro i f f' x m Mc Mm hi hf hf' hC hM hR hx
    obtain ⟨f, rfl⟩ : ∃ z, f = z + 1 := ⟨f - 1, by omega⟩
    obtain ⟨f', rfl⟩ : ∃ z, f' = z + 1 := ⟨f' - 1, by omega⟩
    have hN := hC.1
    obtain ⟨s1, s2⟩ := hC.2.2.2.2 i (by omega)
    obtain ⟨c1, m1, Mc1, Mm1, a1, a2, a3, a4, a5, a6⟩ := fb2 (k10 := f_X12_fetchedMany_10 f') (i := i) (v := s i) (kk := 1) h1 h16 w1 w20 hC hM hR s2 (by omega)
    have hC1 := CS_f hC a4
    have hM1 := MS_f hM a5
    obtain ⟨c2, m2, Mc2, Mm2, b1, b2, b3, b4, b5, b6⟩ := fb2 (k10 := f_X12_fetchedMany_10 f') (i := i) (v := s i) (kk := 2) h1 h16 w1 w20 hC1 hM1 a6 s2 (by omega)
    have hC2 := CS_f hC1 b4
    have hM2 := MS_f hM1 b5
    obtain ⟨c3, m3, Mc3, Mm3, d1, d2, d3, d4, d5, d6⟩ := fb2 (k10 := f_X12_fetchedMany_10 f') (i := i) (v := s i) (kk := 3) h1 h16 w1 w20 hC2 hM2 b6 s2 (by omega)
    have hC3 := CS_f hC2 d4
    have hM3 := MS_f hM2 d5
    have a2 : f_X11_fetchBy Mc (nI (s i)) 1 (nI w) = some (nI c1, Mc1) := a2
    have b2 : f_X11_fetchBy Mc1 (nI (s i)) 2 (nI w) = some (nI c2, Mc2) := b2
    have d2 : f_X11_fetchBy Mc2 (nI (s i)) 0 (nI w) = some (nI c3, Mc3) := d2
    rw [f_X11_countFetched_27, f_X12_fetchedMany_10, hC.2.1, hM.1.1, if_neg (nI_ge (by omega) (by omega)), if_neg (nI_ge (by omega) (by omega)), ck_nI (by omega) (by omega), ck_nI (by omega) (by omega), nI_clamp (by omega), s1, hM.2.2.2 i (by omega), a2, bd_s, b2, bd_s, d2, bd_s, nI_add, nI_add, nI_add, nI_1, i_n1, show (100000 : Nat) = 99996 + 1 + 1 + 1 + 1 from rfl, a3, b3, d3, f_X12_fetchedMany_31, i_n4, if_pos (show nI 4 ≤ nI (3 + 1) from nI_le (by omega) (by omega)), nI_add, nI_add, nI_add, nI_1]
    obtain ⟨x', Mc', Mm', e1, e2, e3, e4, e5⟩ := ih (i + 1) f f' (x + (c1 + c2 + c3)) m3 Mc3 Mm3 (by omega) (by omega) (by omega) hC3 hM3 d6 (by omega)
    refine ⟨x', Mc', Mm', e1, ?_, FC_t a4 (FC_t b4 (FC_t d4 e3)), FM_t a5 (FM_t b5 (FM_t d5 e4)), e5⟩
    rw [show x + c1 + c2 + c3 = x + (c1 + c2 + c3) by omega]
    exact e2
end
section
variable {ns nn na nr nk : Nat} {Mc Mm : Mem}
theorem fetchB {n w : Nat} (h : RelN ns nn na nr nk Mc Mm) (h113 : zb (Mc.1 113 0) = true) (h112 : zb (Mc.1 112 0) = false) (hVM : VM (sg nn Mm) Mm) (hQ : QW (wN (sg nn Mm)) (ahM nn Mm) (Mm.1 38) (Mm.1 39)) (hTM : TM (sg nn Mm) (tcM nn Mm) Mm) (h1 : 1 ≤ n) (h16 : n ≤ 16) (w1 : 1 ≤ w) (w20 : w ≤ 20) :
    ∃ x Mc1 Mm1, f_X11_countFetched Mc (nI n) (nI w) = some (nI x, Mc1) ∧ f_X12_fetchedMany Mm (nI n) (nI w) = some (nI x, Mm1) ∧ RelN ns nn na nr nk Mc1 Mm1 ∧ CFr Mc Mc1 ∧ MFr Mm Mm1 ∧ zb (Mc1.1 113 0) = true ∧ zb (Mc1.1 112 0) = false ∧ VM (sg nn Mm) Mm1 ∧ x ≤ 1200 ∧ (Mc1.1 31 = Mc.1 31 ∧ Mc1.1 32 = Mc.1 32 ∧ Mm1.1 34 = Mm.1 34 ∧ Mm1.1 35 = Mm.1 35) := by
  obtain ⟨Mc1, b1, b2, b3, b4, b5⟩ := touches h h113 h112
  have e3 : zb (Mc1.1 113 0) = true := by rw [b3.1 113 (by decide) (by decide) (by decide) (by decide)]; exact h113
  have e2 : zb (Mc1.1 112 0) = false := by rw [b3.1 112 (by decide) (by decide) (by decide) (by decide)]; exact h112
  obtain ⟨Mc2, a1, a2, a3, a4, a5⟩ := arranges b2 e3 e2
  have f3 : zb (Mc2.1 113 0) = true := by rw [a3.1 113 (by decide) (by decide) (by decide) (by decide)]; exact e3
  have f2 : zb (Mc2.1 112 0) = false := by rw [a3.1 112 (by decide) (by decide) (by decide) (by decide)]; exact e2
  have hV := VWc_of a2 f3 f2
  have hN := hV.2.1
  have g8 := a2.2.2.2.2.2.2.2
  have z115 : zb (Mc2.1 115 0) = true := by rw [a3.1 115 (by decide) (by decide) (by decide) (by decide)]; exact b4
  obtain ⟨sp, u1, u2, u3, u4⟩ := (g8.2.1 z115).2.2
  have cs : CS (wN (sg nn Mm)) (tcM nn Mm) (fun i => cN_ (Mc2.1 57 i)) Mc2 := ⟨hN, hV.1, tcC_of a2 hV, fun v hv k hk z => ((u3 v hv k hk).2 z).2, fun i hi => ⟨(a5.1 i hi).1, (a5.1 i hi).2.1⟩⟩
  have hq := (QW_un hN (Lin_a _ _ _) a5 hQ).1
  have ms : MS (sg nn Mm) (tcM nn Mm) (fun i => cN_ (Mc2.1 57 i)) Mm := ⟨hVM, hTM, wk40 h, fun i hi => by rw [← hq i hi]; exact (a5.1 i hi).1⟩
  have csx : CS (wN (sg nn Mm)) (tcM nn Mm) (fun i => cN_ (Mc2.1 57 i)) (sI (sI Mc2 124 0 (nI n)) 125 0 (nI 0)) := by
    unfold CS TcC at *
    have t : ∀ c, c ≠ 124 → c ≠ 125 → (sI (sI Mc2 124 0 (nI n)) 125 0 (nI 0)).1 c = Mc2.1 c := fun c x y => by rw [sI_n y, sI_n x]
    rw [t 110 (by decide) (by decide), t 35 (by decide) (by decide), t 18 (by decide) (by decide), t 19 (by decide) (by decide), t 20 (by decide) (by decide), t 2 (by decide) (by decide), t 4 (by decide) (by decide), t 57 (by decide) (by decide)]; exact cs
  have msx : MS (sg nn Mm) (tcM nn Mm) (fun i => cN_ (Mc2.1 57 i)) (sI Mm 115 0 (nI 0)) := MS_f ms FM_1
  obtain ⟨x', Mc3, Mm3, d1, d2, d3, d4, d5⟩ := fetch2 (n := n) (w := w) h1 h16 w1 w20 (wN (sg nn Mm)) 0 100000 100000 0 0 _ _ (by omega) (by omega) (by omega) csx msx ⟨by rw [sI_e, pk_us], by rw [sI_e, pk_us], by omega, by rw [sI_n (by decide), sI_e, pk_us], fun i hi => absurd hi (by omega)⟩ (by omega)
  have d1 : f_X11_countFetched_27 100000 (nI w) 0 0 (sI (sI Mc2 124 0 (nI n)) 125 0 0) = _ := d1
  have d2 : f_X12_fetchedMany_10 100000 (nI n) (nI w) 0 0 (sI Mm 115 0 0) = _ := d2
  unfold f_X11_countFetched f_X12_fetchedMany f_X6_clear f_J9_min_7cf53
  rw [b1, bm_s, a1, bm_s, i_n16, if_neg (nI_nlt (by omega) (by omega)), bq_s, bm_s, d1, d2]
  have g : ∀ c, c ≠ 64 → c ≠ 124 → c ≠ 125 → Mc3.1 c = Mc2.1 c := fun c x y z => by rw [d3.1 c x z, sI_n z, sI_n y]
  have gl : ∀ c, c ≠ 65 → c ≠ 66 → Mc3.2.1 c = Mc2.2.1 c := fun c x y => d3.2.1 c x y
  have hF : CFr Mc2 Mc3 := ⟨fun c z => by unfold cRl at z; exact g c (by omega) (by omega) (by omega), gl 101 (by decide) (by decide), gl 68 (by decide) (by decide), d3.2.2⟩
  have mF : MFr Mm Mm3 := ⟨fun c z => by unfold mRl at z; rw [d4.1 c (by omega) (by omega), sI_n (by omega)], d4.2.1 22 (by decide) (by decide), d4.2.1 105 (by decide) (by decide)⟩
  refine ⟨x', Mc3, Mm3, rfl, rfl, RelN_fr a2 hF mF (R8_m ?_ mF), CFr_t (UFr_C b3) (CFr_t (AFr_C a3) hF), mF, by rw [g 113 (by decide) (by decide) (by decide)]; exact f3, by rw [g 112 (by decide) (by decide) (by decide)]; exact f2, (MS_f msx d4).1, d5, by rw [g 31 (by decide) (by decide) (by decide), a3.1 31 (by decide) (by decide) (by decide) (by decide), b3.1 31 (by decide) (by decide) (by decide) (by decide)], by rw [g 32 (by decide) (by decide) (by decide), a3.1 32 (by decide) (by decide) (by decide) (by decide), b3.1 32 (by decide) (by decide) (by decide) (by decide)], by rw [d4.1 34 (by decide) (by decide), sI_n (show (34 : Nat) ≠ 115 by decide)], by rw [d4.1 35 (by decide) (by decide), sI_n (show (35 : Nat) ≠ 115 by decide)]⟩
  unfold R8'
  rw [g 16 (by decide) (by decide) (by decide), g 11 (by decide) (by decide) (by decide), g 14 (by decide) (by decide) (by decide), g 110 (by decide) (by decide) (by decide), g 112 (by decide) (by decide) (by decide), g 113 (by decide) (by decide) (by decide), g 114 (by decide) (by decide) (by decide), g 115 (by decide) (by decide) (by decide), g 116 (by decide) (by decide) (by decide), g 117 (by decide) (by decide) (by decide), g 118 (by decide) (by decide) (by decide), g 119 (by decide) (by decide) (by decide), g 120 (by decide) (by decide) (by decide), g 121 (by decide) (by decide) (by decide), g 122 (by decide) (by decide) (by decide), g 123 (by decide) (by decide) (by decide), g 35 (by decide) (by decide) (by decide), g 41 (by decide) (by decide) (by decide), g 44 (by decide) (by decide) (by decide), g 45 (by decide) (by decide) (by decide), g 46 (by decide) (by decide) (by decide), g 47 (by decide) (by decide) (by decide), g 57 (by decide) (by decide) (by decide), g 59 (by decide) (by decide) (by decide), g 62 (by decide) (by decide) (by decide), gl 36 (by decide) (by decide), gl 39 (by decide) (by decide), gl 40 (by decide) (by decide), gl 49 (by decide) (by decide), gl 50 (by decide) (by decide)]
  exact g8
end
theorem sim_fetched : Sim_fetched Rel := by
  intro Mc Mm y0 y1 ⟨ns, nn, na, nr, nk, h⟩
  unfold f_X11_fetched f_X12_fetched f_X11_roomFits
  rw [in_w 1 16, in_w 1 20, wi_d, wi_d]
  simp only [bq_s]
  by_cases q0 : (1 ≤ y0 ∧ y0 ≤ 16)
  · rw [decide_eq_true q0, bT, bT]
    by_cases q1 : (1 ≤ y1 ∧ y1 ≤ 20)
    · rw [decide_eq_true q1, bT, bT, bq_s, bT]
      have rng : ∀ (x : Int32) (m : Nat), m < 2 ^ 31 → 1 ≤ x → x ≤ nI m → ∃ n, 1 ≤ n ∧ n ≤ m ∧ x = nI n := by
        intro x m hm h1 h2
        rw [Int32.le_iff_toInt_le] at h1 h2
        rw [nI_toInt hm] at h2
        have e1 : (1 : Int32).toInt = 1 := by decide
        obtain ⟨j, hj, e⟩ := nI_of (x := x) (by rw [Int32.lt_iff_toInt_lt]; have e0 : (0 : Int32).toInt = 0 := by decide
                                                omega)
        subst e
        rw [nI_toInt hj] at h1 h2
        exact ⟨j, by omega, by omega, rfl⟩
      obtain ⟨n, n1, n2, rfl⟩ := rng y0 16 (by decide) q0.1 q0.2
      obtain ⟨w, w1, w2, rfl⟩ := rng y1 20 (by decide) q1.1 q1.2
      obtain ⟨Mc1, Mm1, c1, m1, hR, hcF, hmF, hv⟩ := walks h
      rw [c1, m1, bd_s, bd_s]
      cases es : wS (wkA (pgM nn Mm)) with
      | true => exact same_go hR _
      | false =>
        obtain ⟨v1, v2, v3, v4⟩ := hv es
        rw [← MFr_pg hmF nn] at v1 v4
        obtain ⟨Mm2, Mm3, d1, d2, d3, d4, d5, d6, d7, d8, d9⟩ := readyM hR v1 v4
        have es : sg nn Mm3 = sg nn Mm1 := by unfold sg; rw [MFr_pg d4]
        have et : tcM nn Mm3 = tcM nn Mm1 := tcM_fr d4 nn
        obtain ⟨x, Mc4, Mm4, f1, f2, f3, _⟩ := fetchB d3 v2 v3 (by rw [es]; exact d5) (by unfold ahM; rw [es, d4.1 30 (by unfold mRl; omega), d4.1 31 (by unfold mRl; omega)]; exact d6) (by rw [es, et]; exact d7) n1 n2 w1 w2
        rw [bF, bF, d1, bm_s, d2, bm_s, f1, f2, bd_s, bd_s]
        exact same_go f3 _
    · rw [decide_eq_false q1, bF, bF, bq_s, bF]; exact same_go h _
  · rw [decide_eq_false q0, bF, bF, bq_s, bF]; exact same_go h _
