/-! the pure half: rows of acts -/
theorem ofI_b {z : Int} (h1 : -2147483648 ≤ z) (h2 : z ≤ 2147483647) : (Int32.ofInt z).toInt = z := Int32.toInt_ofInt_of_le (by omega) (by omega)
theorem neg_b {x : Int32} (h : -100000 ≤ x.toInt ∧ x.toInt ≤ 100000) : (-x).toInt = -x.toInt := by
  have e : -x = Int32.ofInt (-x.toInt) := by rw [Int32.ofInt_neg, Int32.ofInt_toInt]
  rw [e, ofI_b (by omega) (by omega)]
theorem add_b {x y : Int32} (h : -1000000 ≤ x.toInt ∧ x.toInt ≤ 1000000) (g : -100000000 ≤ y.toInt ∧ y.toInt ≤ 100000000) : (x + y).toInt = x.toInt + y.toInt := by
  have e : x + y = Int32.ofInt (x.toInt + y.toInt) := by rw [Int32.ofInt_add, Int32.ofInt_toInt, Int32.ofInt_toInt]
  rw [e, ofI_b (by omega) (by omega)]
def mp (g : Int32 → Int32) (f : Nat → Int32) (lo hi : Nat) : Nat → Int32 := fun j => if lo ≤ j ∧ j < hi then g (f j) else f j
theorem mp_in {g : Int32 → Int32} {f : Nat → Int32} {lo hi j : Nat} (h : lo ≤ j ∧ j < hi) : mp g f lo hi j = g (f j) := by unfold mp; rw [if_pos h]
theorem mp_out {g : Int32 → Int32} {f : Nat → Int32} {lo hi j : Nat} (h : ¬ (lo ≤ j ∧ j < hi)) : mp g f lo hi j = f j := by unfold mp; rw [if_neg h]
theorem mp_nil (g : Int32 → Int32) (f : Nat → Int32) (lo : Nat) : mp g f lo lo = f := funext (fun j => mp_out (by omega))
theorem mp_step (g : Int32 → Int32) (f : Nat → Int32) {lo hi : Nat} (h : lo < hi) : mp g (upd f lo (g (f lo))) (lo + 1) hi = mp g f lo hi := by
  funext j
  by_cases q : lo + 1 ≤ j ∧ j < hi
  · rw [mp_in q, mp_in ⟨by omega, q.2⟩, pk_un (by omega)]
  · rw [mp_out q]
    by_cases z : j = lo
    · subst z; rw [pk_us, mp_in ⟨by omega, h⟩]
    · rw [pk_un z, mp_out (by omega)]
theorem zI_s (M : Mem) (c k : Nat) (x : Int32) (f : Nat → Int32) : zI (sI M c k x) c f = zI M c f := by unfold zI sI; rw [bx_uu]
theorem zI_self (M : Mem) (c : Nat) : zI M c (M.1 c) = M := by unfold zI; rw [up_self]
theorem RW_num {q l : Nat} {g g' : Nat → Nat → Int32} (h : RW q l g) (h5 : ∀ i, i < q → ∃ w, 1 ≤ w ∧ w ≤ 400 ∧ g' i 5 = nI w) (h6 : ∀ i, i < q → g' i 6 = g i 6) (hb : ∀ i, i < q → ∀ c, c < 5 → -100000 ≤ (g' i c).toInt ∧ (g' i c).toInt ≤ 100000) : RW q l g' := by
  obtain ⟨w1, w2, w3, w4, w5, w6, w7⟩ := h
  refine ⟨w1, w2, by rw [h6 0 (by omega)]; exact w3, fun d hd => ?_, h5, hb, fun i hi => by rw [h6 i hi]; exact w7 i hi⟩
  obtain ⟨i, hi, e⟩ := w4 d hd
  exact ⟨i, hi, by rw [h6 i hi]; exact e⟩
def CB (M0 M : Mem) : Prop := (∀ c, c ≠ 28 → c ≠ 29 → M.1 c = M0.1 c) ∧ M.2 = M0.2
def MB (M0 M : Mem) : Prop := (∀ c, c ≠ 30 → c ≠ 31 → M.1 c = M0.1 c) ∧ (∀ c, c ≠ 36 → M.2.1 c = M0.2.1 c) ∧ (∀ j, 4480 ≤ j → M.1 31 j = M0.1 31 j) ∧ (∀ j, 40 ≤ j → M.1 30 j = M0.1 30 j)
theorem CB_r (M : Mem) : CB M M := ⟨fun _ _ _ => rfl, rfl⟩
theorem MB_r (M : Mem) : MB M M := ⟨fun _ _ _ => rfl, fun _ _ => rfl, fun _ _ => rfl, fun _ _ => rfl⟩
theorem CB_z {M0 M : Mem} {f : Nat → Int32} (h : CB M0 M) : CB M0 (zI M 28 f) := ⟨fun c a b => by rw [zI_n a]; exact h.1 c a b, h.2⟩
theorem CB_s {M0 M : Mem} {k : Nat} {x : Int32} (h : CB M0 M) : CB M0 (sI M 28 k x) := ⟨fun c a b => by rw [sI_n a]; exact h.1 c a b, h.2⟩
theorem MB_z {M0 M : Mem} {f : Nat → Int32} (h : MB M0 M) (hf : ∀ j, 4480 ≤ j → f j = M.1 31 j) : MB M0 (zI M 31 f) := ⟨fun c a b => by rw [zI_n b]; exact h.1 c a b, h.2.1, fun j hj => by rw [zI_e, hf j hj]; exact h.2.2.1 j hj, fun j hj => by rw [zI_n (by decide)]; exact h.2.2.2 j hj⟩
def R2' (ns nn na : Nat) (Mc Mm : Mem) : Prop := R2 ns nn na (Mc.1 106 0) (Mc.1 107 0) (Mm.1 102 0) (Mm.1 103 0) (Mc.1 6) (Mc.1 7) (Mc.1 8) (Mc.1 9) (Mc.1 10) (Mc.1 11) (Mc.1 12) (Mc.1 13) (Mc.1 14) (Mc.1 15) (Mc.1 16) (Mc.1 17) (Mm.1 6) (Mm.1 7) (Mm.1 8) (Mm.1 9) (Mm.1 10)
/-- the rows of both at work, from C0 and N0 on -/
def OJ (na : Nat) (C0 N0 M N : Mem) : Prop := CB C0 M ∧ MB N0 N ∧ OW na (C0.1 16) (C0.1 11) (M.1 29) (M.1 28) (N.1 30) (N.1 31)
section
variable {ns nn na : Nat} {C0 N0 M N : Mem}
theorem CB_t {M0 M1 M2 : Mem} (h : CB M0 M1) (g : CB M1 M2) : CB M0 M2 := ⟨fun c a b => (g.1 c a b).trans (h.1 c a b), g.2.trans h.2⟩
def stB (C0 : Mem) (q k : Nat) : Bool := decide (cN_ (C0.1 11 q) < cN_ (C0.1 11 k) ∧ C0.1 14 (k * 4 + cN_ (C0.1 11 q)) = nI q)
theorem st_eq (h2 : R2' ns nn na C0 N0) (hM : CB C0 M) {a q k : Nat} (ha : a < na) (hq : q < nn) (hk : k < nn) (han : C0.1 16 a = nI k) : f_X2_stands M (nI a) (nI q) = some (stB C0 q k) := by
  have hn : nn ≤ 40 := h2.2.2.1
  have hna : na ≤ 12 := h2.2.2.2.2.2.1
  have hT := h2.2.2.2.2.2.2.2.1
  obtain ⟨d, l2, l1⟩ : ∃ d, d ≤ 4 ∧ C0.1 11 q = nI d := ⟨_, (hT q hq).2.2.1.2.1, (hT q hq).2.2.1.1⟩
  obtain ⟨l, l4, l3⟩ : ∃ l, l ≤ 4 ∧ C0.1 11 k = nI l := ⟨_, (hT k hk).2.2.1.2.1, (hT k hk).2.2.1.1⟩
  have ed : cN_ (C0.1 11 q) = d := by rw [l1]; exact cN_n' (by omega)
  have el : cN_ (C0.1 11 k) = l := by rw [l3]; exact cN_n' (by omega)
  unfold f_X2_stands stB
  rw [ed, el, ck_nI (by omega) (by omega), ck_nI (by omega) (by omega), nI_clamp (by omega), nI_clamp (by omega), hM.1 16 (by decide) (by decide), hM.1 11 (by decide) (by decide), hM.1 14 (by decide) (by decide), han, ck_nI (by omega) (by omega), nI_clamp (by omega), l1, l3]
  by_cases z : l ≤ d
  · rw [if_pos (nI_le z (by omega)), decide_eq_false (fun y => by omega)]
  · rw [if_neg (nI_ge (by omega) (by omega)), i_n4, pk_mul, nI_add, ck_nI (by omega) (by omega), nI_clamp (by omega)]
    by_cases y : C0.1 14 (k * 4 + d) = nI q
    · rw [if_pos y, decide_eq_true ⟨by omega, y⟩]
    · rw [if_neg y, decide_eq_false (fun w => y w.2)]
theorem ai_eq (h2 : R2' ns nn na C0 N0) (e6 : N.1 6 = N0.1 6) (e7 : N.1 7 = N0.1 7) {q k : Nat} (hq : q < nn) (hql : Lq (N0.1 6) q) (hk : k < nn) : f_X12_isActIn N (nI k) (nI q) = some (if N0.1 6 k = 3 then stB C0 q k else false) := by
  have hn : nn ≤ 40 := h2.2.2.1
  obtain ⟨k1, k2, k3, k4, k5⟩ := h2.2.2.2.2.2.2.1
  have hT := h2.2.2.2.2.2.2.2.1
  have hA := h2.2.2.2.2.2.2.2.2.2.1
  unfold f_X12_isActIn
  rw [ck40 (by omega), nI_clamp (by omega), e6]
  by_cases z : N0.1 6 k = 3
  · rw [if_pos z, if_pos z]
    unfold f_X12_isIn
    rw [ck40 (by omega), nI_clamp (by omega), e7, ← k2, isIn_eq hT hA hn (by rw [e7, ← k2]) hq (by rw [k1]; exact hql) k 100000 hk (by omega)]
    unfold stB
    cases decide (cN_ (C0.1 11 q) < cN_ (C0.1 11 k) ∧ C0.1 14 (k * 4 + cN_ (C0.1 11 q)) = nI q) <;> rfl
  · rw [if_neg z, if_neg z]
theorem hl_eq (h2 : R2' ns nn na C0 N0) (hM : CB C0 M) {a k e : Nat} (ha : a < na) (hk : k < nn) (han : C0.1 16 a = nI k) (he : e < 100) : f_X2_hasLetter M (nI a) (nI e) = some (decide (e < cN_ (C0.1 11 k))) := by
  have hn : nn ≤ 40 := h2.2.2.1
  have hna : na ≤ 12 := h2.2.2.2.2.2.1
  obtain ⟨l, l4, l3⟩ : ∃ l, l ≤ 4 ∧ C0.1 11 k = nI l := ⟨_, (h2.2.2.2.2.2.2.2.1 k hk).2.2.1.2.1, (h2.2.2.2.2.2.2.2.1 k hk).2.2.1.1⟩
  have el : cN_ (C0.1 11 k) = l := by rw [l3]; exact cN_n' (by omega)
  unfold f_X2_hasLetter
  rw [el, ck_nI (by omega) (by omega), nI_clamp (by omega), hM.1 16 (by decide) (by decide), hM.1 11 (by decide) (by decide), han, ck_nI (by omega) (by omega), nI_clamp (by omega), l3]
  by_cases z : l ≤ e
  · rw [if_pos (nI_le z (by omega)), decide_eq_false (by omega)]
  · rw [if_neg (nI_ge (by omega) (by omega)), decide_eq_true (by omega)]
theorem re_eq (h2 : R2' ns nn na C0 N0) (hM : CB C0 M) {a q k e : Nat} (ha : a < na) (hq : q < nn) (hk : k < nn) (han : C0.1 16 a = nI k) (he : e < 100) : f_X3_reaches M (nI a) (nI q) (nI e) = some (stB C0 q k && decide (e < cN_ (C0.1 11 k))) := by
  unfold f_X3_reaches
  rw [st_eq h2 hM ha hq hk han, hl_eq h2 hM ha hk han he, bq_s]
  cases stB C0 q k with
  | false => rfl
  | true => cases decide (e < cN_ (C0.1 11 k)) <;> rfl
/-- the loop row of a letter -/
theorem lr_eq {a k qq l d : Nat} (ha : a < 12) (hk : k < 40) (hl4 : l ≤ 4) (h29 : M.1 29 a = nI qq) (h30 : N.1 30 k = nI qq) (hc : ∀ i, i < qq → ∀ c, c < 7 → M.1 28 ((a * 16 + i) * 7 + c) = N.1 31 (7 * (16 * k + i) + c)) (hW : RW qq l (fun i c => N.1 31 (7 * (16 * k + i) + c))) :
    (d < l → ∃ i, 1 ≤ i ∧ i < qq ∧ f_X7_loopRow M (nI a) (nI d) = some (nI ((a * 16 + i) * 7)) ∧ f_X12_loopRow N (nI k) (nI d) = some (nI i) ∧ N.1 31 (7 * (16 * k + i) + 6) = nI d) ∧ (l ≤ d → d < 100 → f_X7_loopRow M (nI a) (nI d) = some (-9) ∧ f_X12_loopRow N (nI k) (nI d) = some (-9)) := by
  obtain ⟨w1, w2, w3, w4, w5, w6, w7⟩ := hW
  have scan : ∀ m x f f', x + m = qq → m < f → m < f' → (∃ i, x ≤ i ∧ i < qq ∧ N.1 31 (7 * (16 * k + i) + 6) = nI d ∧ f_X7_loopRow_2 f (nI a) (nI d) (nI x) M = some (nI ((a * 16 + i) * 7)) ∧ f_X12_loopRow_2 f' (nI k) (nI d) (nI x) N = some (nI i)) ∨ ((∀ i, x ≤ i → i < qq → N.1 31 (7 * (16 * k + i) + 6) ≠ nI d) ∧ f_X7_loopRow_2 f (nI a) (nI d) (nI x) M = some (-9) ∧ f_X12_loopRow_2 f' (nI k) (nI d) (nI x) N = some (-9)) := by
    intro m
    induction m with
    | zero =>
      intro x f f' hx hf hf'
      obtain ⟨f, rfl⟩ : ∃ g, f = g + 1 := ⟨f - 1, by omega⟩
      obtain ⟨f', rfl⟩ : ∃ g, f' = g + 1 := ⟨f' - 1, by omega⟩
      rw [f_X7_loopRow_2, f_X12_loopRow_2, ck_nI ha (by omega), ck_nI hk (by omega), nI_clamp (by omega), nI_clamp (by omega), h29, h30, if_pos (nI_le (by omega) (by omega)), if_pos (nI_le (by omega) (by omega))]
      exact .inr ⟨fun i h1 h2 => absurd h2 (by omega), rfl, rfl⟩
    | succ m ih =>
      intro x f f' hx hf hf'
      obtain ⟨f, rfl⟩ : ∃ g, f = g + 1 := ⟨f - 1, by omega⟩
      obtain ⟨f', rfl⟩ : ∃ g, f' = g + 1 := ⟨f' - 1, by omega⟩
      rw [f_X7_loopRow_2, f_X12_loopRow_2, ck_nI ha (by omega), ck_nI hk (by omega), nI_clamp (by omega), nI_clamp (by omega), h29, h30, if_neg (nI_ge (by omega) (by omega)), if_neg (nI_ge (by omega) (by omega))]
      unfold f_X7_at f_X12_rowAt
      rw [bq_s, bq_s, i_n16, i_n7, pk_mul, pk_mul, nI_add, nI_add, pk_mul, pk_mul, i_n6, nI_add, nI_add, ck_nI (by omega) (by omega), ck_nI (by omega) (by omega), nI_clamp (by omega), nI_clamp (by omega), nI_1, hc x (by omega) 6 (by omega)]
      by_cases z : N.1 31 (7 * (16 * k + x) + 6) = nI d
      · rw [if_pos z, if_pos z]
        exact .inl ⟨x, Nat.le_refl _, by omega, z, rfl, rfl⟩
      · rw [if_neg z, if_neg z]
        rcases ih (x + 1) f f' (by omega) (by omega) (by omega) with ⟨i, i1, i2, i3, i4, i5⟩ | ⟨i1, i2, i3⟩
        · exact .inl ⟨i, by omega, i2, i3, i4, i5⟩
        · refine .inr ⟨fun i h1 h2 => ?_, i2, i3⟩
          by_cases y : i = x
          · rw [y]; exact z
          · exact i1 i (by omega) h2
  have s0 := scan qq 0 100000 100000 (by omega) (by omega) (by omega)
  refine ⟨fun hd => ?_, fun hd hd2 => ?_⟩
  · rcases s0 with ⟨i, i1, i2, i3, i4, i5⟩ | ⟨i1, i2, i3⟩
    · refine ⟨i, ?_, i2, i4, i5, i3⟩
      rcases Nat.eq_zero_or_pos i with y | y
      · subst y
        have : N.1 31 (7 * (16 * k + 0) + 6) = -9 := w3
        rw [this] at i3
        have hl : d < 2 ^ 31 := by omega
        exact absurd i3.symm (nN9 hl)
      · exact y
    · obtain ⟨i, hi, e⟩ := w4 d hd
      exact absurd e (i1 i (by omega) hi)
  · rcases s0 with ⟨i, i1, i2, i3, i4, i5⟩ | ⟨i1, i2, i3⟩
    · rcases w7 i i2 with y | ⟨d', hd', y⟩
      · rw [show N.1 31 (7 * (16 * k + i) + 6) = -9 from y] at i3
        exact absurd i3.symm (nN9 (by omega))
      · rw [show N.1 31 (7 * (16 * k + i) + 6) = nI d' from y] at i3
        have := nI_inj (by omega) (by omega) i3
        omega
    · exact ⟨i2, i3⟩
end
