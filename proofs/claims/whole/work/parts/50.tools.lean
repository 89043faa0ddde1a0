/-! the pure half: tools -/
theorem i_n0 : (0 : Int32) = nI 0 := rfl
theorem i_n1 : (1 : Int32) = nI 1 := rfl
theorem i_n2 : (2 : Int32) = nI 2 := rfl
theorem i_n3 : (3 : Int32) = nI 3 := rfl
theorem i_n4 : (4 : Int32) = nI 4 := rfl
theorem i_n5 : (5 : Int32) = nI 5 := rfl
theorem i_n6 : (6 : Int32) = nI 6 := rfl
theorem i_n7 : (7 : Int32) = nI 7 := rfl
theorem i_n8 : (8 : Int32) = nI 8 := rfl
theorem i_n9 : (9 : Int32) = nI 9 := rfl
theorem i_n10 : (10 : Int32) = nI 10 := rfl
theorem i_n11 : (11 : Int32) = nI 11 := rfl
theorem i_n12 : (12 : Int32) = nI 12 := rfl
theorem i_n13 : (13 : Int32) = nI 13 := rfl
theorem i_n14 : (14 : Int32) = nI 14 := rfl
theorem i_n15 : (15 : Int32) = nI 15 := rfl
theorem i_n16 : (16 : Int32) = nI 16 := rfl
theorem i_n17 : (17 : Int32) = nI 17 := rfl
theorem i_n18 : (18 : Int32) = nI 18 := rfl
theorem i_n19 : (19 : Int32) = nI 19 := rfl
theorem i_n20 : (20 : Int32) = nI 20 := rfl
theorem i_n31 : (31 : Int32) = nI 31 := rfl
theorem i_n39 : (39 : Int32) = nI 39 := rfl
theorem i_n40 : (40 : Int32) = nI 40 := rfl
theorem i_n41 : (41 : Int32) = nI 41 := rfl
theorem i_n80 : (80 : Int32) = nI 80 := rfl
theorem i_n100 : (100 : Int32) = nI 100 := rfl
theorem i_n400 : (400 : Int32) = nI 400 := rfl
theorem i_n760 : (760 : Int32) = nI 760 := rfl
theorem i_n1000 : (1000 : Int32) = nI 1000 := rfl
theorem i_n1200 : (1200 : Int32) = nI 1200 := rfl
theorem i_n2048 : (2048 : Int32) = nI 2048 := rfl
theorem i_n4000 : (4000 : Int32) = nI 4000 := rfl
theorem i_n4480 : (4480 : Int32) = nI 4480 := rfl
theorem i_n85120 : (85120 : Int32) = nI 85120 := rfl
theorem ck_nI {α : Type} {i n : Nat} {k : Option α} (h : i < n) (hn : n < 2 ^ 31) : ck (nI i) n k = k := by
  unfold ck; rw [if_neg (nI_in h hn)]
theorem ca_nI {α : Type} {a b c n0 n1 : Nat} {k : Option α} (h : a + c ≤ n0) (h1 : b + c ≤ n1) (hn : n0 < 2 ^ 31) (hn1 : n1 < 2 ^ 31) : ca (nI a) (nI b) (nI c) n0 n1 k = k := by
  unfold ca
  rw [if_pos ⟨nI_pos (by omega), nI_pos (by omega), nI_pos (by omega), by rw [nI_clamp (by omega), nI_clamp (by omega)]; exact h, by rw [nI_clamp (by omega), nI_clamp (by omega)]; exact h1⟩]
theorem cf_nI {α : Type} {a b n : Nat} {k : Option α} (h : a ≤ b) (h1 : b ≤ n) (hn : n < 2 ^ 31) : cf (nI a) (nI b) n k = k := by
  unfold cf
  rw [if_pos ⟨nI_pos (by omega), nI_le h (by omega), by rw [nI_clamp (by omega)]; exact h1⟩]
theorem cN_n {α : Type} {i n : Nat} {k : Option α} (h : i < n) : cN i n k = k := by unfold cN; rw [if_pos h]
theorem bq_s {α β : Type} (x : α) (k : α → Option β) : bq (some x) k = k x := rfl
theorem bd_s {α β : Type} (r : α) (M : Mem) (k : α → Mem → Option β) : bd (some (r, M)) k = k r M := rfl
theorem bm_s {β : Type} (M : Mem) (k : Mem → Option β) : bm (some M) k = k M := rfl
theorem oq_s {α : Type} (i : Nat) (a : Option α) (k : Nat → Option α) : oq (some i) a k = k i := rfl
theorem oq_n {α : Type} (a : Option α) (k : Nat → Option α) : oq none a k = a := rfl
theorem bT {α : Type} (a b : α) : (if true = true then a else b) = a := rfl
theorem bF {α : Type} (a b : α) : (if false = true then a else b) = b := rfl
theorem nzI_ok {α : Type} {x : Int32} {k : Option α} (h : x ≠ 0) : nzI x k = k := by unfold nzI; rw [if_neg h]
theorem nzL_ok {α : Type} {x : Int64} {k : Option α} (h : x ≠ 0) : nzL x k = k := by unfold nzL; rw [if_neg h]
theorem nzI_2 {α : Type} (k : Option α) : nzI 2 k = k := nzI_ok (by decide)
theorem nzI_3 {α : Type} (k : Option α) : nzI 3 k = k := nzI_ok (by decide)
theorem cB_ok {α : Type} {f : Nat → Int32} {sp n : Nat} {k : Option α} (h : ∀ i, i < n → fits .byte (.int (f (sp + i))) = true) : cB f sp n k = k := by
  unfold cB
  rw [if_pos (List.all_eq_true.mpr (fun i hi => h i (List.mem_range.mp hi)))]
section
variable {M : Mem} {c k j c' lo hi d sp dp n : Nat} {x : Int32} {y : Int64} {f : Nat → Int32}
theorem sI_e : (sI M c k x).1 c = upd (M.1 c) k x := va_up_self _ _ _
theorem sI_n (h : c' ≠ c) : (sI M c k x).1 c' = M.1 c' := va_up_ne _ _ h
theorem sI_2 : (sI M c k x).2 = M.2 := rfl
theorem sL_1 : (sL M c k y).1 = M.1 := rfl
theorem sL_e : (sL M c k y).2.1 c = vp_updL (M.2.1 c) k y := va_up_self _ _ _
theorem sL_n (h : c' ≠ c) : (sL M c k y).2.1 c' = M.2.1 c' := va_up_ne _ _ h
theorem sL_22 : (sL M c k y).2.2 = M.2.2 := rfl
theorem fI_e : (fI M c lo hi x).1 c = fl_ (M.1 c) lo hi x := va_up_self _ _ _
theorem fI_n (h : c' ≠ c) : (fI M c lo hi x).1 c' = M.1 c' := va_up_ne _ _ h
theorem fI_2 : (fI M c lo hi x).2 = M.2 := rfl
theorem fL_1 : (fL M c lo hi y).1 = M.1 := rfl
theorem fL_e : (fL M c lo hi y).2.1 c = fl_ (M.2.1 c) lo hi y := va_up_self _ _ _
theorem fL_n (h : c' ≠ c) : (fL M c lo hi y).2.1 c' = M.2.1 c' := va_up_ne _ _ h
theorem fL_22 : (fL M c lo hi y).2.2 = M.2.2 := rfl
theorem yI_e : (yI M c sp d dp n).1 d = va_cpy (M.1 c) (M.1 d) sp dp n := va_up_self _ _ _
theorem yI_n (h : c' ≠ d) : (yI M c sp d dp n).1 c' = M.1 c' := va_up_ne _ _ h
theorem yI_2 : (yI M c sp d dp n).2 = M.2 := rfl
theorem yL_1 : (yL M c sp d dp n).1 = M.1 := rfl
theorem yL_e : (yL M c sp d dp n).2.1 d = va_cpy (M.2.1 c) (M.2.1 d) sp dp n := va_up_self _ _ _
theorem yL_n (h : c' ≠ d) : (yL M c sp d dp n).2.1 c' = M.2.1 c' := va_up_ne _ _ h
theorem yL_22 : (yL M c sp d dp n).2.2 = M.2.2 := rfl
theorem zI_e : (zI M c f).1 c = f := va_up_self _ _ _
theorem zI_n (h : c' ≠ c) : (zI M c f).1 c' = M.1 c' := va_up_ne _ _ h
theorem zI_2 : (zI M c f).2 = M.2 := rfl
end
theorem fl_in {α : Type} {f : Nat → α} {lo hi j : Nat} {x : α} (h : lo ≤ j ∧ j < hi) : fl_ f lo hi x j = x := by unfold fl_; rw [if_pos h]
theorem fl_out {α : Type} {f : Nat → α} {lo hi j : Nat} {x : α} (h : ¬ (lo ≤ j ∧ j < hi)) : fl_ f lo hi x j = f j := by unfold fl_; rw [if_neg h]
theorem bI_t : bI true = 1 := rfl
theorem bI_f : bI false = 0 := rfl
theorem zb_1 : zb 1 = true := by decide
theorem zb_0 : zb 0 = false := by decide
theorem zb_b (b : Bool) : zb (bI b) = b := by cases b <;> decide
theorem nN9 {j : Nat} (h : j < 2 ^ 31) : ¬ nI j = -9 := by
  intro e
  have := congrArg Int32.toInt e
  rw [nI_toInt h] at this
  have e2 : (-9 : Int32).toInt = -9 := by decide
  omega
theorem n9lt {j : Nat} (h : j < 2 ^ 31) : (-9 : Int32) < nI j := by
  rw [Int32.lt_iff_toInt_lt, nI_toInt h]
  have e2 : (-9 : Int32).toInt = -9 := by decide
  omega
theorem nI_inj {a b : Nat} (ha : a < 2 ^ 31) (hb : b < 2 ^ 31) (h : nI a = nI b) : a = b := (nI_eq ha hb).mp h
/-- a place in a row of n -/
def inN (x : Int32) (n : Nat) : Bool := decide (¬ x < 0 ∧ x.toNatClampNeg < n)
theorem inN_t {x : Int32} {n : Nat} (h : inN x n = true) : ∃ j, j < n ∧ x = nI j := by
  have h := of_decide_eq_true h
  obtain ⟨j, hj, rfl⟩ := nI_of h.1
  rw [nI_clamp hj] at h
  exact ⟨j, h.2, rfl⟩
theorem inN_nI {j n : Nat} (h : j < n) (hj : j < 2 ^ 31) : inN (nI j) n = true := decide_eq_true ⟨nI_pos hj, by rw [nI_clamp hj]; exact h⟩
theorem inN_neg {x : Int32} {n : Nat} (h : x < 0) : inN x n = false := decide_eq_false (fun q => q.1 h)
theorem inN_big {j n : Nat} (h : n ≤ j) (hj : j < 2 ^ 31) : inN (nI j) n = false := decide_eq_false (fun q => by rw [nI_clamp hj] at q; omega)
theorem inN_9 (n : Nat) : inN (-9) n = false := inN_neg (by decide)
/-- the three cases of a place -/
theorem inN_c (x : Int32) : x < 0 ∨ ∃ j, j < 2 ^ 31 ∧ x = nI j := by
  by_cases h : x < 0
  · exact .inl h
  · exact .inr (nI_of h)
theorem kn_eq {M : Mem} {n : Nat} (h : M.1 106 0 = nI n) (hn : n < 2 ^ 31) (x : Int32) : f_X2_known M x = some (inN x n) := by
  unfold f_X2_known
  rcases inN_c x with q | ⟨j, hj, rfl⟩
  · rw [if_pos q, inN_neg q]
  · rw [if_neg (nI_pos hj), h]
    by_cases q : n ≤ j
    · rw [if_pos (nI_le q hj), inN_big q hj]
    · rw [if_neg (nI_ge (by omega) hn), inN_nI (by omega) hj]
theorem ks_eq {M : Mem} {n : Nat} (h : M.1 105 0 = nI n) (hn : n < 2 ^ 31) (x : Int32) : f_X8_known M x = some (inN x n) := by
  unfold f_X8_known
  rcases inN_c x with q | ⟨j, hj, rfl⟩
  · rw [if_pos q, inN_neg q]
  · rw [if_neg (nI_pos hj), h]
    by_cases q : n ≤ j
    · rw [if_pos (nI_le q hj), inN_big q hj]
    · rw [if_neg (nI_ge (by omega) hn), inN_nI (by omega) hj]
theorem wi_d (x a b : Int32) : f_X11_within x a b = some (decide (a ≤ x ∧ x ≤ b)) := by
  unfold f_X11_within
  by_cases h : x < a
  · rw [if_pos h, decide_eq_false (fun q => absurd q.1 (Int32.not_le.mpr h))]
  · rw [if_neg h]
    by_cases g : b < x
    · rw [if_pos g, decide_eq_false (fun q => absurd q.2 (Int32.not_le.mpr g))]
    · rw [if_neg g, decide_eq_true ⟨Int32.not_lt.mp h, Int32.not_lt.mp g⟩]
theorem in_d (x a b : Int64) : f_X12_in x a b = some (decide (a ≤ x ∧ x ≤ b)) := by
  unfold f_X12_in
  by_cases h : x < a
  · rw [if_pos h, decide_eq_false (fun q => absurd q.1 (Int64.not_le.mpr h))]
  · rw [if_neg h]
    by_cases g : b < x
    · rw [if_pos g, decide_eq_false (fun q => absurd q.2 (Int64.not_le.mpr g))]
    · rw [if_neg g, decide_eq_true ⟨Int64.not_lt.mp h, Int64.not_lt.mp g⟩]
theorem t64_le (a b : Int32) : a.toInt64 ≤ b.toInt64 ↔ a ≤ b := by
  rw [Int64.le_iff_toInt_le, Int32.le_iff_toInt_le, Int32.toInt_toInt64, Int32.toInt_toInt64]
/-- the reference's bounds are the class's -/
theorem in_w {x : Int32} (a b : Int32) {a' b' : Int64} (ha : a.toInt64 = a' := by decide) (hb : b.toInt64 = b' := by decide) : f_X12_in x.toInt64 a' b' = f_X11_within x a b := by
  subst ha hb
  rw [in_d, wi_d]
  simp only [t64_le]
theorem wi_n (x : Int32) {m n : Nat} {b : Int32} (hb : b = nI m) (hn : n = m + 1) (hm : m < 2 ^ 31) : f_X11_within x 0 b = some (inN x n) := by
  subst hb hn
  unfold f_X11_within
  rcases inN_c x with q | ⟨j, hj, rfl⟩
  · rw [if_pos q, inN_neg q]
  · rw [if_neg (nI_pos hj)]
    by_cases q : m < j
    · rw [if_pos (nI_lt q hj), inN_big (by omega) hj]
    · rw [if_neg (nI_nlt (by omega) hm), inN_nI (by omega) hj]
theorem wi_p (x : Int32) {n : Nat} (hn : n < 2 ^ 31) : f_X11_within x 0 (nI n - 1) = some (inN x n) := by
  cases n with
  | zero =>
    unfold f_X11_within
    rcases inN_c x with q | ⟨j, hj, rfl⟩
    · rw [if_pos q, inN_neg q]
    · rw [if_neg (nI_pos hj), inN_big (by omega) hj, if_pos]
      have e : (nI 0 - 1 : Int32).toInt = -1 := by decide
      rw [Int32.lt_iff_toInt_lt, nI_toInt hj, e]
      omega
  | succ m => rw [nI_pred]; exact wi_n x rfl rfl (by omega)
theorem in_p (x : Int32) {n : Nat} (hn : n < 2 ^ 31) : f_X12_in x.toInt64 0 (nI n - 1).toInt64 = some (inN x n) := by
  rw [in_w 0 (nI n - 1) (by decide) rfl]; exact wi_p x hn
theorem no_eq {M : Mem} {n : Nat} (h : M.1 102 0 = nI n) (hn : n < 2 ^ 31) (x : Int32) : f_X12_isNode M x = some (inN x n) := by
  unfold f_X12_isNode; rw [h, in_p x hn]; rfl
theorem su_eq {M : Mem} {n : Nat} (h : M.1 101 0 = nI n) (hn : n < 2 ^ 31) (x : Int32) : f_X12_isSum M x = some (inN x n) := by
  unfold f_X12_isSum; rw [h, in_p x hn]; rfl
theorem ar_eq {M : Mem} {n : Nat} (h : M.1 104 0 = nI n) (hn : n < 2 ^ 31) (x : Int32) : f_X12_isArray M x = some (inN x n) := by
  unfold f_X12_isArray; rw [h, in_p x hn]; rfl
theorem wi_c (x a b : Int32) : f_X11_within x a b = some true ∨ f_X11_within x a b = some false := by
  rw [wi_d]; cases decide (a ≤ x ∧ x ≤ b) <;> simp
theorem up_self {α : Type} (f : Nat → α) (k : Nat) : va_up f k (f k) = f := by
  funext j
  by_cases q : j = k
  · subst q; exact va_up_self _ _ _
  · exact va_up_ne _ _ q
theorem fl_nil {α : Type} (f : Nat → α) (a : Nat) (x : α) : fl_ f a a x = f := funext (fun j => fl_out (by omega))
theorem fl_step (f : Nat → Int32) {lo hi : Nat} (x : Int32) (h : lo < hi) : fl_ (upd f lo x) (lo + 1) hi x = fl_ f lo hi x := by
  funext j
  by_cases q : lo + 1 ≤ j ∧ j < hi
  · rw [fl_in q, fl_in ⟨by omega, q.2⟩]
  · rw [fl_out q]
    by_cases g : j = lo
    · subst g; rw [pk_us, fl_in ⟨by omega, h⟩]
    · rw [pk_un g, fl_out (by omega)]
theorem fl_stepL (f : Nat → Int64) {lo hi : Nat} (x : Int64) (h : lo < hi) : fl_ (vp_updL f lo x) (lo + 1) hi x = fl_ f lo hi x := by
  funext j
  by_cases q : lo + 1 ≤ j ∧ j < hi
  · rw [fl_in q, fl_in ⟨by omega, q.2⟩]
  · rw [fl_out q]
    by_cases g : j = lo
    · subst g; rw [pk_uLs, fl_in ⟨by omega, h⟩]
    · rw [pk_uLn g, fl_out (by omega)]
section
variable {M : Mem} {c d lo hi a sp dp n : Nat} {x : Int32} {y : Int64}
theorem fI_nil : fI M c a a x = M := by unfold fI; rw [fl_nil, up_self]
theorem fL_nil : fL M c a a y = M := by unfold fL; rw [fl_nil, up_self]
theorem fI_step (h : lo < hi) : fI (sI M c lo x) c (lo + 1) hi x = fI M c lo hi x := by
  unfold fI
  rw [sI_e, fl_step _ _ h]
  unfold sI
  rw [bx_uu]
theorem fL_step (h : lo < hi) : fL (sL M c lo y) c (lo + 1) hi y = fL M c lo hi y := by
  unfold fL
  rw [sL_e, fl_stepL _ _ h]
  unfold sL
  rw [bx_uu]
theorem cpy_nil {α : Type} (f g : Nat → α) (sp dp : Nat) : va_cpy f g sp dp 0 = g := funext (fun j => pk_cpy_out (by omega))
theorem cpy_step (f g : Nat → Int32) (sp dp n : Nat) : va_cpy f (upd g dp (f sp)) (sp + 1) (dp + 1) n = va_cpy f g sp dp (n + 1) := by
  funext j
  by_cases q : dp + 1 ≤ j ∧ j < dp + 1 + n
  · rw [pk_cpy_in q.1 q.2, pk_cpy_in (by omega) (by omega)]
    congr 1; omega
  · rw [pk_cpy_out (by omega)]
    by_cases g1 : j = dp
    · subst g1; rw [pk_us, pk_cpy_in (by omega) (by omega)]
      congr 1; omega
    · rw [pk_un g1, pk_cpy_out (by omega)]
theorem yI_nil : yI M c sp d dp 0 = M := by unfold yI; rw [cpy_nil, up_self]
theorem yI_step (h : c ≠ d) : yI (sI M d dp (M.1 c sp)) c (sp + 1) d (dp + 1) n = yI M c sp d dp (n + 1) := by
  unfold yI
  rw [sI_e, sI_n h, cpy_step]
  unfold sI
  rw [bx_uu]
end
