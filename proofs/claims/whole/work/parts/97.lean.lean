/-! the pure half: lean -/
theorem sI_z (M : Mem) (c k : Nat) (x : Int32) (f : Nat → Int32) : sI (zI M c f) c k x = zI M c (upd f k x) := by
  unfold sI zI
  show (va_up (va_up M.1 c f) c (upd (va_up M.1 c f c) k x), M.2) = (va_up M.1 c (upd f k x), M.2)
  rw [va_up_self, bx_uu]
def wr (g : Nat → Int32) (lo n : Nat) (v : Nat → Int32) : Nat → Int32 := fun z => if lo ≤ z ∧ z < lo + n then v (z - lo) else g z
theorem wr_in {g v : Nat → Int32} {lo n c : Nat} (h : c < n) : wr g lo n v (lo + c) = v c := by
  unfold wr
  rw [if_pos (by omega), Nat.add_sub_cancel_left]
theorem wr_out {g v : Nat → Int32} {lo n z : Nat} (h : ¬ (lo ≤ z ∧ z < lo + n)) : wr g lo n v z = g z := if_neg h
theorem wr_0 (g v : Nat → Int32) (lo : Nat) : wr g lo 0 v = g := funext (fun z => wr_out (by omega))
theorem wr_s (g v : Nat → Int32) (lo c : Nat) : upd (wr g lo c v) (lo + c) (v c) = wr g lo (c + 1) v := by
  funext z
  by_cases q : z = lo + c
  · rw [q, pk_us, wr_in (by omega)]
  · rw [pk_un q]
    by_cases y : lo ≤ z ∧ z < lo + c
    · obtain ⟨e, rfl⟩ : ∃ e, z = lo + e := ⟨z - lo, by omega⟩
      rw [wr_in (by omega), wr_in (by omega)]
    · rw [wr_out y, wr_out (by omega)]
def okB (x : Int32) : Bool := decide (-100000 ≤ x ∧ x ≤ 100000)
theorem okB_i {x : Int32} (h : okB x = true) : -100000 ≤ x.toInt ∧ x.toInt ≤ 100000 := by
  have w := of_decide_eq_true h
  rw [Int32.le_iff_toInt_le, Int32.le_iff_toInt_le] at w
  have c1 : (-100000 : Int32).toInt = -100000 := by decide
  have c2 : (100000 : Int32).toInt = 100000 := by decide
  omega
section
variable {M N : Mem} {lo l2 : Nat} {f x1 x2 x4 x5 : Int32}
/-- the class: do the numbers fit -/
theorem lf81 {k14 : Int32 → Int32 → Int32 → Int32 → Int32 → Mem → Option Bool} (h1 : lo + 5 ≤ 1344) (h2 : l2 + 5 ≤ 1344) :
    ∀ r c fu, c + r = 5 → r < fu → (∀ c', c' < c → okB (M.1 28 (lo + c') + f * M.1 28 (l2 + c')) = true) →
    (f_X3_leanFits_81 k14 fu x1 x2 f x4 x5 (nI lo) (nI l2) (nI c) M = k14 x1 x2 f x4 (x5 + 1) M ∧ ∀ c', c' < 5 → okB (M.1 28 (lo + c') + f * M.1 28 (l2 + c')) = true) ∨ (f_X3_leanFits_81 k14 fu x1 x2 f x4 x5 (nI lo) (nI l2) (nI c) M = some false ∧ ∃ c', c' < 5 ∧ okB (M.1 28 (lo + c') + f * M.1 28 (l2 + c')) = false) := by
  intro r
  induction r with
  | zero =>
    intro c fu hc hf hp
    obtain ⟨fu, rfl⟩ : ∃ z, fu = z + 1 := ⟨fu - 1, by omega⟩
    rw [f_X3_leanFits_81, i_n5, if_pos (nI_le (by omega) (by omega))]
    exact .inl ⟨rfl, fun c' hc' => hp c' (by omega)⟩
  | succ r ih =>
    intro c fu hc hf hp
    obtain ⟨fu, rfl⟩ : ∃ z, fu = z + 1 := ⟨fu - 1, by omega⟩
    unfold f_X3_leanFits_81
    unfold f_X11_rowNumberFits
    rw [i_n5, if_neg (nI_ge (by omega) (by omega)), nI_add, nI_add, ck_nI (by omega) (by omega), ck_nI (by omega) (by omega), nI_clamp (by omega), nI_clamp (by omega), wi_d, bq_s, bq_s, nI_1]
    cases e : okB (M.1 28 (lo + c) + f * M.1 28 (l2 + c)) with
    | true =>
      have e' : decide (-100000 ≤ M.1 28 (lo + c) + f * M.1 28 (l2 + c) ∧ M.1 28 (lo + c) + f * M.1 28 (l2 + c) ≤ 100000) = true := e
      rw [e', bT]
      refine ih (c + 1) fu (by omega) (by omega) (fun c' hc' => ?_)
      by_cases z : c' = c
      · rw [z]; exact e
      · exact hp c' (by omega)
    | false =>
      have e' : decide (-100000 ≤ M.1 28 (lo + c) + f * M.1 28 (l2 + c) ∧ M.1 28 (lo + c) + f * M.1 28 (l2 + c) ≤ 100000) = false := e
      rw [e', bF]
      exact .inr ⟨rfl, c, by omega, e⟩
/-- the class: the numbers are written -/
theorem lr81 {k14 : Int32 → Int32 → Int32 → Int32 → Int32 → Mem → Option Mem} (h1 : lo + 5 ≤ 1344) (h2 : l2 + 5 ≤ 1344) (hd : lo + 5 ≤ l2 ∨ l2 + 5 ≤ lo) :
    ∀ r c fu, c + r = 5 → r < fu → f_X3_leanRows_81 k14 fu x1 x2 f x4 x5 (nI lo) (nI l2) (nI c) (zI M 28 (wr (M.1 28) lo c (fun c => M.1 28 (lo + c) + f * M.1 28 (l2 + c)))) = k14 x1 x2 f x4 (x5 + 1) (zI M 28 (wr (M.1 28) lo 5 (fun c => M.1 28 (lo + c) + f * M.1 28 (l2 + c)))) := by
  intro r
  induction r with
  | zero =>
    intro c fu hc hf
    obtain ⟨fu, rfl⟩ : ∃ z, fu = z + 1 := ⟨fu - 1, by omega⟩
    have : c = 5 := by omega
    subst this
    rw [f_X3_leanRows_81, i_n5, if_pos (nI_le (by omega) (by omega))]
  | succ r ih =>
    intro c fu hc hf
    obtain ⟨fu, rfl⟩ : ∃ z, fu = z + 1 := ⟨fu - 1, by omega⟩
    rw [f_X3_leanRows_81, i_n5, if_neg (nI_ge (by omega) (by omega)), nI_add, nI_add, ck_nI (by omega) (by omega), ck_nI (by omega) (by omega), ck_nI (by omega) (by omega), nI_clamp (by omega), nI_clamp (by omega), zI_e, wr_out (by omega), wr_out (by omega), sI_z, nI_1]
    have := wr_s (M.1 28) (fun c => M.1 28 (lo + c) + f * M.1 28 (l2 + c)) lo c
    have this : upd (wr (M.1 28) lo c (fun c => M.1 28 (lo + c) + f * M.1 28 (l2 + c))) (lo + c) (M.1 28 (lo + c) + f * M.1 28 (l2 + c)) = _ := this
    rw [this]
    exact ih (c + 1) fu (by omega) (by omega)
/-- the reference: the numbers in long -/
theorem ml135 {k73 : Int32 → Int32 → Int32 → Int32 → Int32 → Mem → Option (Int32 × Mem)} (h1 : lo + 5 ≤ 4480) (h2 : l2 + 5 ≤ 4480) (hf20 : -100 ≤ f.toInt ∧ f.toInt ≤ 100) (hb : ∀ c, c < 5 → (-100000 ≤ (N.1 31 (lo + c)).toInt ∧ (N.1 31 (lo + c)).toInt ≤ 100000) ∧ (-100000 ≤ (N.1 31 (l2 + c)).toInt ∧ (N.1 31 (l2 + c)).toInt ≤ 100000)) :
    ∀ r c fu N1, c + r = 5 → r < fu → OnL 36 N N1 → (∀ c', c' < c → N1.2.1 36 c' = (N.1 31 (lo + c') + f * N.1 31 (l2 + c')).toInt64) →
    ∃ N2, f_X12_lean_135 k73 fu x1 x2 f x4 x5 (nI lo) (nI l2) (nI c) N1 = bd (f_X12_fits N2 (nI lo)) (fun r48 M49 => if r48 = true then k73 x1 x2 f x4 (x5 + 1) M49 else bm (f_X12_giveTried M49) (fun M53 => some ((-6), M53))) ∧ OnL 36 N N2 ∧ ∀ c', c' < 5 → N2.2.1 36 c' = (N.1 31 (lo + c') + f * N.1 31 (l2 + c')).toInt64 := by
  intro r
  induction r with
  | zero =>
    intro c fu N1 hc hf hO hp
    obtain ⟨fu, rfl⟩ : ∃ z, fu = z + 1 := ⟨fu - 1, by omega⟩
    rw [f_X12_lean_135, i_n5, if_pos (nI_le (by omega) (by omega))]
    exact ⟨N1, rfl, hO, fun c' hc' => hp c' (by omega)⟩
  | succ r ih =>
    intro c fu N1 hc hf hO hp
    obtain ⟨fu, rfl⟩ : ∃ z, fu = z + 1 := ⟨fu - 1, by omega⟩
    obtain ⟨b1, b2⟩ := hb c (by omega)
    have L1 := (lin64 (a := f) (x := N.1 31 (l2 + c)) (y := N.1 31 (lo + c)) hf20 b2 b1).1
    rw [Int64.add_comm, Int32.add_comm] at L1
    rw [f_X12_lean_135, i_n5, if_neg (nI_ge (by omega) (by omega)), nI_add, nI_add, ck_nI (by omega) (by omega), ck_nI (by omega) (by omega), ck_nI (by omega) (by omega), nI_clamp (by omega), nI_clamp (by omega), nI_clamp (by omega), hO.1, L1, nI_1]
    refine ih (c + 1) fu _ (by omega) (by omega) (OnL_s hO) (fun c' hc' => ?_)
    by_cases z : c' = c
    · rw [z, sL_e, pk_uLs]
    · rw [sL_e, pk_uLn z]; exact hp c' (by omega)
variable {v : Nat → Int32}
theorem ft46 (h1 : lo + 5 ≤ 4480) (h36 : ∀ c, c < 5 → N.2.1 36 c = (v c).toInt64) : ∀ r c fu, c + r = 5 → r < fu → f_X12_fits_46 fu (nI lo) true (nI c) (zI N 31 (wr (N.1 31) lo c v)) = some (true, zI N 31 (wr (N.1 31) lo 5 v)) := by
  intro r
  induction r with
  | zero =>
    intro c fu hc hf
    obtain ⟨fu, rfl⟩ : ∃ z, fu = z + 1 := ⟨fu - 1, by omega⟩
    have : c = 5 := by omega
    subst this
    rw [f_X12_fits_46, i_n5, if_pos (nI_le (by omega) (by omega))]
  | succ r ih =>
    intro c fu hc hf
    obtain ⟨fu, rfl⟩ : ∃ z, fu = z + 1 := ⟨fu - 1, by omega⟩
    rw [f_X12_fits_46, i_n5, if_neg (nI_ge (by omega) (by omega)), bT, ck_nI (by omega) (by omega), nI_add, ck_nI (by omega) (by omega), nI_clamp (by omega), nI_clamp (by omega), zI_2, h36 c (by omega), t64_32, sI_z, wr_s, nI_1]
    exact ih (c + 1) fu (by omega) (by omega)
theorem ft5 (h36 : ∀ c, c < 5 → N.2.1 36 c = (v c).toInt64) : ∀ r c fu b, c + r = 5 → r < fu → (b = true ↔ ∀ c', c' < c → okB (v c') = true) → ∃ b', f_X12_fits_5 fu (nI lo) b (nI c) N = f_X12_fits_46 100000 (nI lo) b' 0 N ∧ (b' = true ↔ ∀ c', c' < 5 → okB (v c') = true) := by
  intro r
  induction r with
  | zero =>
    intro c fu b hc hf hb
    obtain ⟨fu, rfl⟩ : ∃ z, fu = z + 1 := ⟨fu - 1, by omega⟩
    have : c = 5 := by omega
    subst this
    rw [f_X12_fits_5, i_n5, if_pos (nI_le (by omega) (by omega))]
    exact ⟨b, rfl, hb⟩
  | succ r ih =>
    intro c fu b hc hf hb
    obtain ⟨fu, rfl⟩ : ∃ z, fu = z + 1 := ⟨fu - 1, by omega⟩
    rw [f_X12_fits_5, i_n5, if_neg (nI_ge (by omega) (by omega)), nI_1]
    cases b with
    | false =>
      rw [bF]
      refine ih (c + 1) fu false (by omega) (by omega) ⟨fun z => absurd z (by decide), fun z => ?_⟩
      exact absurd (hb.mpr (fun c' hc' => z c' (by omega))) (by decide)
    | true =>
      rw [bT, ck_nI (by omega) (by omega), nI_clamp (by omega), h36 c (by omega), in_w (-100000) 100000, wi_d, bq_s]
      cases e : okB (v c) with
      | true =>
        have e' : decide (-100000 ≤ v c ∧ v c ≤ 100000) = true := e
        rw [e', bT]
        refine ih (c + 1) fu true (by omega) (by omega) ⟨fun _ c' hc' => ?_, fun _ => rfl⟩
        by_cases z : c' = c
        · rw [z]; exact e
        · exact hb.mp rfl c' (by omega)
      | false =>
        have e' : decide (-100000 ≤ v c ∧ v c ≤ 100000) = false := e
        rw [e', bF]
        refine ih (c + 1) fu false (by omega) (by omega) ⟨fun z => absurd z (by decide), fun z => ?_⟩
        have := z c (by omega)
        rw [e] at this
        exact this
theorem fits_eq (h1 : lo + 5 ≤ 4480) (h36 : ∀ c, c < 5 → N.2.1 36 c = (v c).toInt64) : (f_X12_fits N (nI lo) = some (true, zI N 31 (wr (N.1 31) lo 5 v)) ∧ ∀ c, c < 5 → okB (v c) = true) ∨ (f_X12_fits N (nI lo) = some (false, N) ∧ ∃ c, c < 5 ∧ okB (v c) = false) := by
  obtain ⟨b, e1, e2⟩ := ft5 (lo := lo) h36 5 0 100000 true (by omega) (by omega) ⟨fun _ c' hc' => absurd hc' (by omega), fun _ => rfl⟩
  unfold f_X12_fits
  have e1 : f_X12_fits_5 100000 (nI lo) true 0 N = _ := e1
  rw [e1]
  cases b with
  | true =>
    have := ft46 h1 h36 5 0 100000 (by omega) (by omega)
    rw [wr_0, zI_self] at this
    exact .inl ⟨this, e2.mp rfl⟩
  | false =>
    refine .inr ⟨?_, ?_⟩
    · rw [show (100000 : Nat) = 99999 + 1 from rfl, f_X12_fits_46, if_neg (by decide), bF]
    · apply Classical.byContradiction
      intro z
      have := e2.mpr (fun c hc => by
        cases e : okB (v c) with
        | true => rfl
        | false => exact absurd ⟨c, hc, e⟩ z)
      exact absurd this (by decide)
end
section
variable {ns nn na : Nat} {C0 N0 M N : Mem}
/-- five numbers of a row change, in both -/
theorem OJ_row (h2 : R2' ns nn na C0 N0) (hJ : OJ na C0 N0 M N) {N1 : Mem} (hN1 : OnL 36 N N1) {a k i qq l : Nat} {v : Nat → Int32} (ha : a < na) (hk : k < nn) (han : C0.1 16 a = nI k) (hao : C0.1 17 k = nI a) (o1 : M.1 29 a = nI qq) (o2 : N.1 30 k = nI qq) (o3 : ∀ i, i < qq → ∀ c, c < 7 → M.1 28 ((a * 16 + i) * 7 + c) = N.1 31 (7 * (16 * k + i) + c)) (el' : cN_ (C0.1 11 k) = l) (o4 : RW qq l (fun i c => N.1 31 (7 * (16 * k + i) + c))) (hi : i < qq)
    (hx : ∀ c, c < 5 → -100000 ≤ (v c).toInt ∧ (v c).toInt ≤ 100000) : OJ na C0 N0 (zI M 28 (wr (M.1 28) ((a * 16 + i) * 7) 5 v)) (zI N1 31 (wr (N1.1 31) (7 * (16 * k + i)) 5 v)) := by
  have hn : nn ≤ 40 := h2.2.2.1
  have hna : na ≤ 12 := h2.2.2.2.2.2.1
  have hqq : qq ≤ 16 := o4.2.1
  have ek : cN_ (C0.1 16 a) = k := by rw [han]; exact cN_n' (by omega)
  have hJ1 : MB N0 N1 := ⟨fun c x y => by rw [hN1.1]; exact hJ.2.1.1 c x y, fun c x => by rw [hN1.2.1 c x]; exact hJ.2.1.2.1 c x, fun j hj => by rw [hN1.1]; exact hJ.2.1.2.2.1 j hj, fun j hj => by rw [hN1.1]; exact hJ.2.1.2.2.2 j hj⟩
  refine ⟨CB_z hJ.1, MB_z hJ1 (fun j hj => wr_out (by omega)), ?_⟩
  rw [zI_n (by decide), zI_e, zI_n (by decide), zI_e, hN1.1]
  refine OW_upd (a := a) (k := k) hJ.2.2 (inj_a h2 ha hk han hao) ek (fun a' _ => rfl) (fun z hz => wr_out (by omega)) (fun m _ => rfl) (fun z hz => wr_out (by omega)) ⟨qq, o1, o2, fun i' hi' c hc => ?_, ?_⟩
  · by_cases z : i' = i ∧ c < 5
    · rw [z.1, wr_in z.2, wr_in z.2]
    · rw [wr_out (by omega), wr_out (by omega)]; exact o3 i' hi' c hc
  · rw [el']
    refine RW_num o4 (fun i' hi' => ?_) (fun i' hi' => ?_) (fun i' hi' c hc => ?_)
    · rw [wr_out (by omega)]; exact o4.2.2.2.2.1 i' hi'
    · rw [wr_out (by omega)]
    · by_cases z : i' = i
      · rw [z, wr_in hc]; exact hx c hc
      · rw [wr_out (by omega)]; exact o4.2.2.2.2.2.1 i' hi' c hc
theorem lean_ls {C1 : Mem} (h2 : R2' ns nn na C0 N0) (h21 : R2' ns nn na C1 N0) (hC1 : ∀ c, c ≠ 108 → c ≠ 109 → C1.1 c = C0.1 c) (hO : OW na (C0.1 16) (C0.1 11) (C0.1 29) (C0.1 28) (N0.1 30) (N0.1 31)) {q : Nat} (hq : q < nn) (hql : Lq (N0.1 6) q) {d e : Nat} (hd : d < 4) (ed : C0.1 11 q = nI d) (he : e < 4) (hde : e ≠ d) {fc : Int32} (hfc : -20 ≤ fc.toInt ∧ fc.toInt ≤ 20) :
    (∃ M N, f_X3_leanFits_14 100000 (nI q) (nI e) fc (nI d) (nI 0) C1 = some true ∧ f_X3_leanRows_14 100000 (nI q) (nI e) fc (nI d) (nI 0) C0 = some M ∧ f_X12_lean_73 100000 (nI q) (nI e) fc (nI d) (nI 0) N0 = bd (f_X12_turned N) (fun r M => some (r, M)) ∧ OJ na C0 N0 M N) ∨
    (∃ N, f_X3_leanFits_14 100000 (nI q) (nI e) fc (nI d) (nI 0) C1 = some false ∧ f_X12_lean_73 100000 (nI q) (nI e) fc (nI d) (nI 0) N0 = bm (f_X12_giveTried N) (fun M => some (-6, M)) ∧ MB N0 N) := by
  have hn : nn ≤ 40 := h2.2.2.1
  have hna : na ≤ 12 := h2.2.2.2.2.2.1
  obtain ⟨k1, k2, k3, k4, k5⟩ := h2.2.2.2.2.2.2.1
  have hT := h2.2.2.2.2.2.2.2.1
  have hC := h2.2.2.2.2.2.2.2.2.2.2.2
  have ed' : cN_ (C0.1 11 q) = d := by rw [ed]; exact cN_n' (by omega)
  refine acts_ind hC hn (fun k a => ∀ M N f fk f', OJ na C0 N0 M N → (∀ j, a * 112 ≤ j → M.1 28 j = C0.1 28 j) → (∀ a', a ≤ a' → M.1 29 a' = C0.1 29 a') → nn - k < f' → na - a < f → na - a < fk →
    (∃ M' N', f_X3_leanFits_14 fk (nI q) (nI e) fc (nI d) (nI a) C1 = some true ∧ f_X3_leanRows_14 f (nI q) (nI e) fc (nI d) (nI a) M = some M' ∧ f_X12_lean_73 f' (nI q) (nI e) fc (nI d) (nI k) N = bd (f_X12_turned N') (fun r M => some (r, M)) ∧ OJ na C0 N0 M' N') ∨
    (∃ N', f_X3_leanFits_14 fk (nI q) (nI e) fc (nI d) (nI a) C1 = some false ∧ f_X12_lean_73 f' (nI q) (nI e) fc (nI d) (nI k) N = bm (f_X12_giveTried N') (fun M => some (-6, M)) ∧ MB N0 N')) ?_ ?_ ?_ C0 N0 100000 100000 100000 ⟨CB_r C0, MB_r N0, hO⟩ (fun _ _ => rfl) (fun _ _ => rfl) (by omega) (by omega) (by omega)
  · intro M N f fk f' hJ hu hv hf' hf hfk
    obtain ⟨f, rfl⟩ : ∃ g, f = g + 1 := ⟨f - 1, by omega⟩
    obtain ⟨fk, rfl⟩ : ∃ g, fk = g + 1 := ⟨fk - 1, by omega⟩
    obtain ⟨f', rfl⟩ : ∃ g, f' = g + 1 := ⟨f' - 1, by omega⟩
    refine .inl ⟨M, N, ?_, ?_, ?_, hJ⟩
    · rw [f_X3_leanFits_14, h21.2.2.2.1, if_pos (nI_le (Nat.le_refl _) (by omega))]
    · rw [f_X3_leanRows_14, hJ.1.1 107 (by decide) (by decide), h2.2.2.2.1, if_pos (nI_le (Nat.le_refl _) (by omega))]
    · rw [f_X12_lean_73, hJ.2.1.1 102 (by decide) (by decide), h2.2.1, if_pos (nI_le (Nat.le_refl _) (by omega))]
  · intro k a hk ha h3 ih M N f fk f' hJ hu hv hf' hf hfk
    obtain ⟨f', rfl⟩ : ∃ g, f' = g + 1 := ⟨f' - 1, by omega⟩
    rw [f_X12_lean_73, hJ.2.1.1 102 (by decide) (by decide), h2.2.1, if_neg (nI_ge hk (by omega)), ai_eq h2 (hJ.2.1.1 6 (by decide) (by decide)) (hJ.2.1.1 7 (by decide) (by decide)) hq hql hk, if_neg (by rw [← k1]; exact h3), bq_s, bF, nI_1]
    exact ih M N f fk f' hJ hu hv (by omega) hf hfk
  · intro k a hk ha h3 han hao ih M N f fk f' hJ hu hv hf' hf hfk
    obtain ⟨f, rfl⟩ : ∃ g, f = g + 1 := ⟨f - 1, by omega⟩
    obtain ⟨fk, rfl⟩ : ∃ g, fk = g + 1 := ⟨fk - 1, by omega⟩
    obtain ⟨f', rfl⟩ : ∃ g, f' = g + 1 := ⟨f' - 1, by omega⟩
    obtain ⟨l, hl4, el⟩ : ∃ l, l ≤ 4 ∧ C0.1 11 k = nI l := ⟨_, (hT k hk).2.2.1.2.1, (hT k hk).2.2.1.1⟩
    have el' : cN_ (C0.1 11 k) = l := by rw [el]; exact cN_n' (by omega)
    have el1 : cN_ (C1.1 11 k) = l := by rw [hC1 11 (by decide) (by decide)]; exact el'
    have han1 : C1.1 16 a = nI k := by rw [hC1 16 (by decide) (by decide)]; exact han
    rw [f_X3_leanFits_14, f_X3_leanRows_14, f_X12_lean_73, h21.2.2.2.1, hJ.1.1 107 (by decide) (by decide), hJ.2.1.1 102 (by decide) (by decide), h2.2.2.2.1, h2.2.1, if_neg (nI_ge ha (by omega)), if_neg (nI_ge ha (by omega)), if_neg (nI_ge hk (by omega)), ai_eq h2 (hJ.2.1.1 6 (by decide) (by decide)) (hJ.2.1.1 7 (by decide) (by decide)) hq hql hk, if_pos (by rw [← k1]; exact h3), re_eq h2 hJ.1 ha hq hk han (by omega), re_eq h21 (CB_r C1) ha hq hk han1 (by omega), stB_k (hC1 11 (by decide) (by decide)) (hC1 14 (by decide) (by decide)), bq_s, bq_s, bq_s, el', el1, ck40 (by omega), nI_clamp (show k < 2 ^ 31 by omega), hJ.2.1.1 8 (by decide) (by decide), ← k3, el]
    simp only [nI_1]
    cases es : stB C0 q k with
    | false =>
      rw [bF, Bool.false_and, bF, bF]
      exact ih M N f fk f' hJ (fun j hj => hu j (by omega)) (fun a' ha' => hv a' (by omega)) (by omega) (by omega) (by omega)
    | true =>
      have hst := of_decide_eq_true es
      rw [ed', el'] at hst
      rw [bT, Bool.true_and]
      by_cases hle : e < l
      · rw [decide_eq_true hle, bT, bT, if_neg (nI_ge hle (by omega))]
        obtain ⟨qq, o1, o2, o3, o4⟩ := hJ.2.2 a ha
        have ek : cN_ (C0.1 16 a) = k := by rw [han]; exact cN_n' (by omega)
        rw [ek] at o2 o3 o4
        rw [el'] at o4
        have hqq : qq ≤ 16 := o4.2.1
        have c28 : ∀ i, i < qq → ∀ c, c < 7 → C1.1 28 ((a * 16 + i) * 7 + c) = N.1 31 (7 * (16 * k + i) + c) := fun i hi c hc => by
          rw [hC1 28 (by decide) (by decide), ← hu _ (by omega)]; exact o3 i hi c hc
        have c29 : C1.1 29 a = nI qq := by rw [hC1 29 (by decide) (by decide), ← hv a (Nat.le_refl _)]; exact o1
        obtain ⟨i, i1, i2, i3, i4, i5⟩ := (lr_eq (M := M) (N := N) (d := d) (by omega) (by omega) hl4 o1 o2 o3 o4).1 hst.1
        obtain ⟨j, j1, j2, j3, j4, j5⟩ := (lr_eq (M := M) (N := N) (d := e) (by omega) (by omega) hl4 o1 o2 o3 o4).1 hle
        obtain ⟨i', _, i2', i3', i4', _⟩ := (lr_eq (M := C1) (N := N) (d := d) (by omega) (by omega) hl4 c29 o2 c28 o4).1 hst.1
        obtain ⟨j', _, j2', j3', j4', _⟩ := (lr_eq (M := C1) (N := N) (d := e) (by omega) (by omega) hl4 c29 o2 c28 o4).1 hle
        have ei : i' = i := by rw [i4] at i4'; exact (nI_inj (by omega) (by omega) (Option.some.inj i4')).symm
        have ej : j' = j := by rw [j4] at j4'; exact (nI_inj (by omega) (by omega) (Option.some.inj j4')).symm
        subst ei ej
        have hij : i' ≠ j' := by
          intro z
          rw [z, j5] at i5
          have := nI_inj (by omega) (by omega) i5
          omega
        have vM : ∀ c, c < 5 → M.1 28 ((a * 16 + i') * 7 + c) + fc * M.1 28 ((a * 16 + j') * 7 + c) = N.1 31 (7 * (16 * k + i') + c) + fc * N.1 31 (7 * (16 * k + j') + c) := fun c hc => by rw [o3 i' i2 c (by omega), o3 j' j2 c (by omega)]
        have vC : ∀ c, c < 5 → C1.1 28 ((a * 16 + i') * 7 + c) + fc * C1.1 28 ((a * 16 + j') * 7 + c) = N.1 31 (7 * (16 * k + i') + c) + fc * N.1 31 (7 * (16 * k + j') + c) := fun c hc => by rw [c28 i' i2 c (by omega), c28 j' j2 c (by omega)]
        unfold f_X12_rowAt
        rw [i3, j3, i3', j3', bq_s, bq_s, bq_s, bq_s, if_neg (nI_pos (by omega)), if_neg (nI_pos (by omega)), if_pos (nI_pos' (by omega)), if_pos (nI_pos' (by omega)), i4, j4, bq_s, bq_s, bq_s, bq_s, i_n16, i_n7, i_n0]
        simp only [pk_mul, nI_add]
        have lr := lr81 (M := M) (lo := (a * 16 + i') * 7) (l2 := (a * 16 + j') * 7) (f := fc) (x1 := nI q) (x2 := nI e) (x4 := nI d) (x5 := nI a) (k14 := f_X3_leanRows_14 f) (by omega) (by omega) (by omega) 5 0 100000 (by omega) (by omega)
        rw [wr_0, zI_self] at lr
        rw [lr]
        obtain ⟨N2, n1, n2, n3⟩ := ml135 (N := N) (lo := 7 * (16 * k + i')) (l2 := 7 * (16 * k + j')) (f := fc) (x1 := nI q) (x2 := nI e) (x4 := nI d) (x5 := nI k) (k73 := f_X12_lean_73 f') (by omega) (by omega) (by omega) (fun c hc => ⟨o4.2.2.2.2.2.1 i' i2 c hc, o4.2.2.2.2.2.1 j' j2 c hc⟩) 5 0 100000 N (by omega) (by omega) (OnL_r 36 N) (fun c' hc' => absurd hc' (by omega))
        rw [n1]
        rcases fits_eq (N := N2) (lo := 7 * (16 * k + i')) (v := fun c => N.1 31 (7 * (16 * k + i') + c) + fc * N.1 31 (7 * (16 * k + j') + c)) (by omega) n3 with ⟨y1, y2⟩ | ⟨y1, c0, y2, y3⟩
        · rcases lf81 (M := C1) (lo := (a * 16 + i') * 7) (l2 := (a * 16 + j') * 7) (f := fc) (x1 := nI q) (x2 := nI e) (x4 := nI d) (x5 := nI a) (k14 := f_X3_leanFits_14 fk) (by omega) (by omega) 5 0 100000 (by omega) (by omega) (fun c' hc' => absurd hc' (by omega)) with ⟨z1, _⟩ | ⟨_, c1, z2, z3⟩
          · rw [z1, y1, bd_s, bT, nI_1, nI_1]
            have ew : wr (M.1 28) ((a * 16 + i') * 7) 5 (fun c => M.1 28 ((a * 16 + i') * 7 + c) + fc * M.1 28 ((a * 16 + j') * 7 + c)) = wr (M.1 28) ((a * 16 + i') * 7) 5 (fun c => N.1 31 (7 * (16 * k + i') + c) + fc * N.1 31 (7 * (16 * k + j') + c)) := by
              funext z
              by_cases y : (a * 16 + i') * 7 ≤ z ∧ z < (a * 16 + i') * 7 + 5
              · obtain ⟨c, rfl⟩ : ∃ c, z = (a * 16 + i') * 7 + c := ⟨z - (a * 16 + i') * 7, by omega⟩
                rw [wr_in (by omega), wr_in (by omega)]; exact vM c (by omega)
              · rw [wr_out y, wr_out y]
            rw [ew]
            exact ih _ _ f fk f' (OJ_row h2 hJ n2 ha hk han hao o1 o2 o3 el' o4 i2 (fun c hc => okB_i (y2 c hc))) (fun j hj => by rw [zI_e, wr_out (by omega)]; exact hu j (by omega)) (fun a' ha' => by rw [zI_n (by decide)]; exact hv a' (by omega)) (by omega) (by omega) (by omega)
          · rw [vC c1 z2, y2 c1 z2] at z3
            exact absurd z3 (by decide)
        · rcases lf81 (M := C1) (lo := (a * 16 + i') * 7) (l2 := (a * 16 + j') * 7) (f := fc) (x1 := nI q) (x2 := nI e) (x4 := nI d) (x5 := nI a) (k14 := f_X3_leanFits_14 fk) (by omega) (by omega) 5 0 100000 (by omega) (by omega) (fun c' hc' => absurd hc' (by omega)) with ⟨_, z2⟩ | ⟨z1, _⟩
          · have := z2 c0 y2
            rw [vC c0 y2] at this
            have y3 : okB (N.1 31 (7 * (16 * k + i') + c0) + fc * N.1 31 (7 * (16 * k + j') + c0)) = false := y3
            rw [y3] at this
            exact absurd this (by decide)
          · rw [z1, y1, bd_s, bF]
            exact .inr ⟨N2, rfl, rfl, fun c x y => by rw [n2.1]; exact hJ.2.1.1 c x y, fun c x => by rw [n2.2.1 c x]; exact hJ.2.1.2.1 c x, fun j hj => by rw [n2.1]; exact hJ.2.1.2.2.1 j hj, fun j hj => by rw [n2.1]; exact hJ.2.1.2.2.2 j hj⟩
      · rw [decide_eq_false hle, bF, bF, if_pos (nI_le (by omega) (by omega))]
        exact ih M N f fk f' hJ (fun j hj => hu j (by omega)) (fun a' ha' => hv a' (by omega)) (by omega) (by omega) (by omega)
end
theorem sim_lean : Sim_lean Rel := by
  intro Mc Mm y0 y1 y2 ⟨ns, nn, na, nr, nk, h⟩
  have h2 := h.2.1
  have hn : nn ≤ 40 := h2.2.2.1
  obtain ⟨k1, k2, k3, k4, k5⟩ := h2.2.2.2.2.2.2.1
  unfold f_X11_lean f_X12_lean
  rw [kn_eq h2.1 (by omega), no_eq h2.2.1 (by omega), in_w 0 3, wi_n y1 (b := 3) (m := 3) (n := 4) rfl rfl (by decide), in_w (-20) 20, wi_d]
  cases e0 : inN y0 nn with
  | false => exact same_go h _
  | true =>
    obtain ⟨j, hj, rfl⟩ := inN_t e0
    cases e1 : inN y1 4 with
    | false => exact same_go h _
    | true =>
      obtain ⟨e, he, rfl⟩ := inN_t e1
      simp only [bq_s, bT, if_true]
      by_cases q20 : -20 ≤ y2 ∧ y2 ≤ 20
      · rw [decide_eq_true q20, bT, bT]
        have hfc : -20 ≤ y2.toInt ∧ y2.toInt ≤ 20 := by
          have w1 := q20.1
          have w2 := q20.2
          rw [Int32.le_iff_toInt_le] at w1 w2
          have c1 : (-20 : Int32).toInt = -20 := by decide
          have c2 : (20 : Int32).toInt = 20 := by decide
          omega
        obtain ⟨b, b1, b2, b3, _⟩ := isLp_b (M := Mc) (N := Mm) (j := j) (by omega) k1
        rw [b1, b2, bq_s, bq_s]
        cases b with
        | false => exact meet_go h 3 (by decide) rfl
        | true =>
          have hql := b3 rfl
          obtain ⟨d, hd, ed⟩ : ∃ d, d < 4 ∧ Mc.1 11 j = nI d := ⟨_, (h2.2.2.2.2.2.2.2.1 j hj).2.2.1.2.2 (by rw [k1]; exact hql), (h2.2.2.2.2.2.2.2.1 j hj).2.2.1.1⟩
          rw [bT, bT, ck40 (by omega), ck40 (by omega), nI_clamp (by omega), ← k3, ed]
          by_cases qe : e = d
          · rw [if_pos (by rw [qe]), if_pos (by rw [qe])]; exact same_go h _
          · have ne : ¬ nI e = nI d := fun z => qe (nI_inj (by omega) (by omega) z)
            rw [if_neg ne, if_neg ne]
            obtain ⟨Mk, Mt, t1, t2, t3, t4, t5, t6, t34, t35, t7⟩ := turn_done h
            obtain ⟨g2, gO⟩ := R2_k h t3 t5
            have g21 : R2' ns nn na Mc Mt := (R2_k (Mk := Mc) h (fun _ _ _ => rfl) t5).1
            have pl := lean_ls (C1 := Mc) (fc := y2) g2 g21 (fun c a b => (t3 c a b).symm) gO hj (by rw [t5 6 (by decide) (by decide)]; exact hql) hd (by rw [t3 11 (by decide) (by decide)]; exact ed) he qe hfc
            unfold f_X3_leanFits f_X3_leanRows
            rw [ck40 (by omega), nI_clamp (by omega), ed, t2, bm_s, i_n0]
            rcases pl with ⟨M, N, u1, u2, u3, u4⟩ | ⟨N, u1, u2, u3⟩
            · obtain ⟨Mc3, Mm3, v1, v2, v3⟩ := t7 M N u4.1.1 u4.1.2 u4.2.1.1 u4.2.1.2.1 (by have := u4.2.2; rw [t3 16 (by decide) (by decide), t3 11 (by decide) (by decide)] at this; exact this)
              rw [u1, bq_s, bT, t1, bm_s, ck40 (by omega), t3 11 (by decide) (by decide), ed, u2, bm_s, v1, u3, v2]
              exact ⟨_, _, _, rfl, rfl, v3⟩
            · obtain ⟨N', w1, w2⟩ := give_rel h t5 t6 t34 t35 u3
              rw [u1, bq_s, bF, u2, w1, bm_s]
              exact same_go w2 _
      · rw [decide_eq_false q20, bF, bF]; exact same_go h _
