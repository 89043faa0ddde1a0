/-! the pure half: best -/
def oc (M : Mem) : Mem := sI (sI (sI M 117 0 (bI false)) 121 0 (bI false)) 123 0 (bI false)
theorem oc_n {M : Mem} {c : Nat} (a : c ≠ 117) (b : c ≠ 121) (d : c ≠ 123) : (oc M).1 c = M.1 c := by unfold oc; rw [sI_n d, sI_n b, sI_n a]
theorem oc_2 (M : Mem) : (oc M).2 = M.2 := rfl
theorem oc_f (M : Mem) : (oc M).1 117 0 = bI false ∧ (oc M).1 121 0 = bI false ∧ (oc M).1 123 0 = bI false := by
  unfold oc
  exact ⟨by rw [sI_n (show (117 : Nat) ≠ 123 by decide), sI_n (show (117 : Nat) ≠ 121 by decide), sI_e, pk_us], by rw [sI_n (show (121 : Nat) ≠ 123 by decide), sI_e, pk_us], by rw [sI_e, pk_us]⟩
theorem upc {f : Nat → Nat → Int32} {c c' : Nat} {a b : Nat → Int32} (h : c ≠ c') : va_up (va_up f c a) c' b = va_up (va_up f c' b) c a := by
  funext j
  by_cases q : j = c'
  · subst q
    rw [va_up_self, va_up_ne _ _ (fun z => h z.symm), va_up_self]
  · rw [va_up_ne _ _ q]
    by_cases y : j = c
    · subst y; rw [va_up_self, va_up_self]
    · rw [va_up_ne _ _ y, va_up_ne _ _ y, va_up_ne _ _ q]
theorem sI_cm {M : Mem} {c c' k k' : Nat} {x y : Int32} (h : c ≠ c') : sI (sI M c k x) c' k' y = sI (sI M c' k' y) c k x := by
  unfold sI
  show (va_up (va_up M.1 c (upd (M.1 c) k x)) c' (upd (va_up M.1 c (upd (M.1 c) k x) c') k' y), M.2) = (va_up (va_up M.1 c' (upd (M.1 c') k' y)) c (upd (va_up M.1 c' (upd (M.1 c') k' y) c) k x), M.2)
  rw [va_up_ne _ _ (fun z => h z.symm), va_up_ne _ _ h, upc h]
theorem oc_s {M : Mem} {c k : Nat} {x : Int32} (a : c ≠ 117) (b : c ≠ 121) (d : c ≠ 123) : sI (oc M) c k x = oc (sI M c k x) := by
  unfold oc
  rw [sI_cm (fun z => d z.symm), sI_cm (fun z => b z.symm) (M := sI M 117 0 (bI false)), sI_cm (fun z => a z.symm) (M := M)]
theorem sI_ii {M : Mem} {c k : Nat} {x : Int32} : sI (sI M c k x) c k x = sI M c k x := by
  unfold sI
  show (va_up (va_up M.1 c (upd (M.1 c) k x)) c (upd (va_up M.1 c (upd (M.1 c) k x) c) k x), M.2) = _
  rw [va_up_self, bx_uu]
  have : upd (upd (M.1 c) k x) k x = upd (M.1 c) k x := by
    funext j
    by_cases q : j = k
    · rw [q, pk_us, pk_us]
    · rw [pk_un q]
  rw [this]
theorem oc_oc (M : Mem) : oc (oc M) = oc M := by
  unfold oc
  rw [sI_cm (M := sI (sI M 117 0 (bI false)) 121 0 (bI false)) (show (123 : Nat) ≠ 117 by decide), sI_cm (M := sI M 117 0 (bI false)) (show (121 : Nat) ≠ 117 by decide), sI_ii, sI_cm (M := sI (sI M 117 0 (bI false)) 121 0 (bI false)) (show (123 : Nat) ≠ 121 by decide), sI_ii, sI_ii]
def TK (g28 g29 : Nat → Int32) (M : Mem) (i : Nat) (x : Int32) : Mem := tIf (tIf M (4 * i + 2) (va_cpy g28 (M.2.2.2.1 (4 * i + 2)) (0 : Int32).toNatClampNeg (0 : Int32).toNatClampNeg ((x * 16) * 7).toNatClampNeg)) (4 * i + 3) (va_cpy g29 ((tIf M (4 * i + 2) (va_cpy g28 (M.2.2.2.1 (4 * i + 2)) (0 : Int32).toNatClampNeg (0 : Int32).toNatClampNeg ((x * 16) * 7).toNatClampNeg)).2.2.2.1 (4 * i + 3)) (0 : Int32).toNatClampNeg (0 : Int32).toNatClampNeg x.toNatClampNeg)
theorem tk_oc (M : Mem) (i : Nat) (x : Int32) : f_X7_take_kn (oc M) i x = (f_X7_take_kn M i x).map oc := by
  have e1 : f_X7_take_kn M i x = ca 0 0 ((x * 16) * 7) 1344 1344 (ca 0 0 x 12 12 (some (TK (M.1 28) (M.1 29) M i x))) := rfl
  have e2 : f_X7_take_kn (oc M) i x = ca 0 0 ((x * 16) * 7) 1344 1344 (ca 0 0 x 12 12 (some (TK ((oc M).1 28) ((oc M).1 29) (oc M) i x))) := rfl
  have e3 : TK (M.1 28) (M.1 29) (oc M) i x = oc (TK (M.1 28) (M.1 29) M i x) := rfl
  rw [e1, e2, oc_n (c := 28) (by decide) (by decide) (by decide), oc_n (c := 29) (by decide) (by decide) (by decide), e3]
  generalize TK (M.1 28) (M.1 29) M i x = T
  have ca_m : ∀ (a b d : Int32) (n m : Nat) (k : Option Mem), ca a b d n m (k.map oc) = (ca a b d n m k).map oc := by
    intro a b d n m k
    unfold ca
    by_cases q : ¬ a < 0 ∧ ¬ b < 0 ∧ ¬ d < 0 ∧ a.toNatClampNeg + d.toNatClampNeg ≤ n ∧ b.toNatClampNeg + d.toNatClampNeg ≤ m
    · rw [if_pos q, if_pos q]
    · rw [if_neg q, if_neg q]; rfl
  rw [← ca_m, ← ca_m]
  rfl
theorem k39_oc (j : Nat) (M : Mem) : f_X3_keep_39 j (oc M) = (f_X3_keep_39 j M).map oc := by
  unfold f_X3_keep_39
  rw [oc_n (c := 107) (by decide) (by decide) (by decide), tk_oc]
  show cN j (M.2.2.2.2.2 1) _ = _
  unfold cN
  by_cases q1 : j < M.2.2.2.2.2 1
  · rw [if_pos q1, if_pos q1]
    cases f_X7_take_kn M j (M.1 107 0) with
    | none => rfl
    | some T =>
      show (if 20 ≤ (oc T).1 109 0 then nzI 20 (some (sI (oc T) 108 0 ((((oc T).1 108 0) + 1) - (((oc T).1 108 0) + 1) / 20 * 20))) else some (sI (oc T) 109 0 (((oc T).1 109 0) + 1))) = Option.map oc (if 20 ≤ T.1 109 0 then nzI 20 (some (sI T 108 0 (((T.1 108 0) + 1) - ((T.1 108 0) + 1) / 20 * 20))) else some (sI T 109 0 ((T.1 109 0) + 1)))
      rw [oc_n (c := 109) (by decide) (by decide) (by decide), oc_n (c := 108) (by decide) (by decide) (by decide), oc_s (c := 108) (by decide) (by decide) (by decide), oc_s (c := 109) (by decide) (by decide) (by decide)]
      by_cases q2 : 20 ≤ T.1 109 0
      · rw [if_pos q2, if_pos q2, nzI_ok (by decide), nzI_ok (by decide)]; rfl
      · rw [if_neg q2, if_neg q2]; rfl
  · rw [if_neg q1, if_neg q1]; rfl
theorem keep_oc (M : Mem) : f_X3_keep (oc M) = (f_X3_keep M).map oc := by
  unfold f_X3_keep
  rw [oc_n (c := 108) (by decide) (by decide) (by decide), oc_n (c := 109) (by decide) (by decide) (by decide)]
  have e1 : ∀ x y, sQ (nKt (oc M)) 33 x y = oc (sQ (nKt M) 33 x y) := fun _ _ => rfl
  rw [e1]
  show nzI 20 (ck _ 20 (oq (M.2.2.1 33 _) (cP (∀ k, M.2.2.1 33 k ≠ some (M.2.2.2.2.2 1)) (ck _ 20 (f_X3_keep_39 (M.2.2.2.2.2 1) (oc _)))) (fun j3 => f_X3_keep_39 j3 (oc M)))) = _
  rw [nzI_ok (by decide), nzI_ok (by decide)]
  unfold ck
  generalize ((M.1 108 0) + (M.1 109 0)) - ((M.1 108 0) + (M.1 109 0)) / 20 * 20 = s
  by_cases q : s < 0 ∨ 20 ≤ s.toNatClampNeg
  · rw [if_pos q, if_pos q]; rfl
  · rw [if_neg q, if_neg q, if_neg q, if_neg q]
    cases M.2.2.1 33 s.toNatClampNeg with
    | some j => rw [oq_s, oq_s, k39_oc]
    | none =>
      rw [oq_n, oq_n, k39_oc]
      unfold cP
      rcases Classical.em (∀ k, M.2.2.1 33 k ≠ some (M.2.2.2.2.2 1)) with z | z
      · rw [if_pos z, if_pos z]; rfl
      · rw [if_neg z, if_neg z]; rfl
def tof (d c : Nat) : Nat := if c = 0 then 0 else d + c
section
variable {ns nn na nr nk : Nat} {Mc Mm C0 N0 : Mem}
theorem R2_w {C' : Mem} (h : R2' ns nn na C0 N0) (e : ∀ c, c < 18 ∨ c = 106 ∨ c = 107 → C'.1 c = C0.1 c) : R2' ns nn na C' N0 := by
  unfold R2' at *
  rw [e 106 (by omega), e 107 (by omega), e 6 (by omega), e 7 (by omega), e 8 (by omega), e 9 (by omega), e 10 (by omega), e 11 (by omega), e 12 (by omega), e 13 (by omega), e 14 (by omega), e 15 (by omega), e 16 (by omega), e 17 (by omega)]
  exact h
theorem mk2 (h2 : R2' ns nn na C0 N0) (hO : OW na (C0.1 16) (C0.1 11) (C0.1 29) (C0.1 28) (N0.1 30) (N0.1 31)) {j d c : Nat} (hj : j < nn) (hql : Lq (N0.1 6) j) (hd : d < 4) (ed : C0.1 11 j = nI d) (hc : c ≤ 4 - d) :
    ∃ M N, f_X11_makeChoice C0 (nI j) (nI c) = some M ∧ f_X12_make N0 (nI j) (nI (tof d c)) = some N ∧ OJ na C0 N0 M N := by
  have hn : nn ≤ 40 := h2.2.2.1
  unfold f_X11_makeChoice f_X12_make f_X11_choicesOf tof
  by_cases q : c = 0
  · subst q
    rw [if_neg (show ¬ (0 : Int32) < nI 0 by decide), if_pos rfl, if_neg (show ¬ nI 0 = 4 by decide), if_pos (show nI 0 ≤ 0 by decide)]
    exact ⟨C0, N0, rfl, rfl, CB_r C0, MB_r N0, hO⟩
  · rw [if_pos (show (0 : Int32) < nI c from nI_lt (a := 0) (by omega) (by omega)), if_neg q, ck40 (by omega), ck40 (by omega), nI_clamp (by omega), ed, i_n4, pk_sub (by omega), nI_1, bq_s, nI_pred]
    by_cases z : c = 4 - d
    · obtain ⟨M, N, a1, a2, a3⟩ := back_ls h2 hO hj hql
      rw [if_pos (by rw [z]), a1, bm_s, if_pos (by rw [show d + c = 4 by omega]), a2, bm_s]
      exact ⟨M, N, rfl, rfl, a3⟩
    · obtain ⟨M, N, a1, a2, a3⟩ := swap_ls h2 hO hj hql (e := d + c) (by omega) (by rw [ed, cN_n' (by omega)]; omega)
      rw [if_neg (fun y => z (nI_inj (by omega) (by omega) y)), nI_add, a1, bm_s, if_neg (fun y => z (by have := nI_inj (by omega) (by omega) y; omega)), if_neg (nI_nle (by omega) (by omega)), a2, bm_s]
      exact ⟨M, N, rfl, rfl, a3⟩
/-- what a round of best needs -/
def BI (ns nn na nr nk : Nat) (Mc Mm : Mem) : Prop := RelN ns nn na nr nk (oc Mc) Mm ∧ zb (Mc.1 113 0) = true ∧ zb (Mc.1 112 0) = false ∧ VM (sg nn Mm) Mm ∧ (∀ k, k < 40 → Mm.1 34 k = Mm.1 30 k) ∧ ∀ k, k < 4480 → Mm.1 35 k = Mm.1 31 k
theorem try2 (h : BI ns nn na nr nk Mc Mm) {j d c n w : Nat} (hj : j < nn) (hql : Lq (Mm.1 6) j) (hd : d < 4) (ed : Mc.1 11 j = nI d) (hc : c ≤ 4 - d) (n1 : 1 ≤ n) (n16 : n ≤ 16) (w1 : 1 ≤ w) (w20 : w ≤ 20) :
    ∃ x Mc1 MmA b MmB Mm1, f_X11_tryChoice Mc (nI j) (nI c) (nI n) (nI w) = some (x, Mc1) ∧ f_X12_make Mm (nI j) (nI (tof d c)) = some MmA ∧ f_X12_isAllowed MmA = some (b, MmB) ∧
      (b = true → ∃ z MmC, f_X12_fetchedMany MmB (nI n) (nI w) = some (nI z, MmC) ∧ x = nI z ∧ z ≤ 1200 ∧ f_X12_giveTried MmC = some Mm1) ∧ (b = false → x = -9 ∧ f_X12_giveTried MmB = some Mm1) ∧
      BI ns nn na nr nk Mc1 Mm1 ∧ Mc1.1 11 = Mc.1 11 ∧ Mm1.1 6 = Mm.1 6 ∧ Mm1.1 8 = Mm.1 8 := by
  obtain ⟨hR, h113, h112, hVM, t34, t35⟩ := h
  have h2 : R2' ns nn na (oc Mc) Mm := hR.2.1
  have hn : nn ≤ 40 := h2.2.2.1
  have hna : na ≤ 12 := h2.2.2.2.2.2.1
  have ocn : ∀ c, c < 117 → (oc Mc).1 c = Mc.1 c := fun c hc => oc_n (by omega) (by omega) (by omega)
  have e107 : Mc.1 107 0 = nI na := by rw [← ocn 107 (by omega)]; exact h2.2.2.2.1
  have c0 : (0 : Int32).toNatClampNeg = 0 := by decide
  -- set aside
  have sa : f_X3_setAside Mc = some (yI (yI Mc 28 0 31 0 (na * 16 * 7)) 29 0 32 0 na) := by
    unfold f_X3_setAside f_X7_take_an
    have f1 : ∀ k : Option Mem, ca 0 0 (nI (na * 16 * 7)) 1344 1344 k = k := fun k => ca_nI (a := 0) (b := 0) (by omega) (by omega) (by omega) (by omega)
    have f2 : ∀ k : Option Mem, ca 0 0 (nI na) 12 12 k = k := fun k => ca_nI (a := 0) (b := 0) (by omega) (by omega) (by omega) (by omega)
    rw [e107, i_n16, i_n7, pk_mul, pk_mul, f1, f2, c0, nI_clamp (by omega), nI_clamp (by omega), bm_s]
  generalize hM1 : yI (yI Mc 28 0 31 0 (na * 16 * 7)) 29 0 32 0 na = M1 at sa
  have m1 : ∀ c, c ≠ 31 → c ≠ 32 → M1.1 c = Mc.1 c := fun c x y => by rw [← hM1, yI_n y, yI_n x]
  have m12 : M1.2 = Mc.2 := by rw [← hM1]; rfl
  have m31 : ∀ j, j < na * 112 → M1.1 31 j = Mc.1 28 j := fun j hj => by rw [← hM1, yI_n (by decide), yI_e, pk_cpy_in (by omega) (by omega)]; exact ix (by omega)
  have m32 : ∀ j, j < na → M1.1 32 j = Mc.1 29 j := fun j hj => by rw [← hM1, yI_e, pk_cpy_in (by omega) (by omega), yI_n (by decide)]; exact ix (by omega)
  have OW0 : OW na (Mc.1 16) (Mc.1 11) (Mc.1 29) (Mc.1 28) (Mm.1 30) (Mm.1 31) := by
    have := hR.2.2.2.2.2.2.1.1
    rw [ocn 16 (by omega), ocn 11 (by omega), ocn 29 (by omega), ocn 28 (by omega)] at this
    exact this
  obtain ⟨M2, N2, a1, a2, a3⟩ := mk2 (C0 := M1) (N0 := Mm) (R2_w h2 (fun c hc => by rw [m1 c (by omega) (by omega), ocn c (by omega)])) (by rw [m1 16 (by decide) (by decide), m1 11 (by decide) (by decide), m1 29 (by decide) (by decide), m1 28 (by decide) (by decide)]; exact OW0) hj hql hd (by rw [m1 11 (by decide) (by decide)]; exact ed) hc
  have oc2 : f_X11_ordersChanged M2 = some (oc M2) := rfl
  have cM2 : ∀ c, c ≠ 28 → c ≠ 29 → c ≠ 31 → c ≠ 32 → M2.1 c = Mc.1 c := fun c x y z u => by rw [a3.1.1 c x y, m1 c z u]
  have cM22 : M2.2 = Mc.2 := a3.1.2.trans m12
  have nM2 : ∀ c, c ≠ 30 → c ≠ 31 → N2.1 c = Mm.1 c := a3.2.1.1
  have OW2 : OW na (Mc.1 16) (Mc.1 11) (M2.1 29) (M2.1 28) (N2.1 30) (N2.1 31) := by
    have := a3.2.2
    rw [m1 16 (by decide) (by decide), m1 11 (by decide) (by decide)] at this
    exact this
  have R2_ : RelN ns nn na nr nk (oc M2) N2 := by
    refine RelN_o hR (fun c x1 x2 x3 x4 x5 x6 x7 _ _ _ x8 _ x9 _ _ _ _ _ _ _ _ _ => by rw [oc_n x7 x8 x9, cM2 c x1 x2 x3 x4, oc_n x7 x8 x9]) (fun c _ _ _ => by rw [oc_2, cM22, oc_2]) (by rw [oc_2, cM22, oc_2]) (fun c _ x1 x2 _ _ _ => nM2 c x1 x2) (a3.2.1.2.1 22 (by decide)) (a3.2.1.2.1 105 (by decide)) (oc_f M2).1 (oc_f M2).2.1 (oc_f M2).2.2 ?_
    have g := hR.2.2.2.2.2.2.1
    obtain ⟨_, g2, g3, g4, o, g5, g6, g7⟩ := g
    rw [oc_n (M := M2) (c := 28) (by decide) (by decide) (by decide), oc_n (M := M2) (c := 29) (by decide) (by decide) (by decide), oc_n (M := M2) (c := 108) (by decide) (by decide) (by decide), oc_n (M := M2) (c := 109) (by decide) (by decide) (by decide), cM2 108 (by decide) (by decide) (by decide) (by decide), cM2 109 (by decide) (by decide) (by decide) (by decide), nM2 109 (by decide) (by decide), nM2 32 (by decide) (by decide), nM2 33 (by decide) (by decide), ← ocn 108 (by omega), ← ocn 109 (by omega)]
    refine ⟨?_, g2, g3, g4, o, g5, g6, g7⟩
    rw [ocn 16 (by omega), ocn 11 (by omega)]; exact OW2
  have z113 : zb ((oc M2).1 113 0) = true := by rw [oc_n (by decide) (by decide) (by decide), cM2 113 (by decide) (by decide) (by decide) (by decide)]; exact h113
  have z112 : zb ((oc M2).1 112 0) = false := by rw [oc_n (by decide) (by decide) (by decide), cM2 112 (by decide) (by decide) (by decide) (by decide)]; exact h112
  have eg : sg nn N2 = sg nn Mm := by
    unfold sg pgM; rw [nM2 2 (by decide) (by decide), nM2 4 (by decide) (by decide), nM2 6 (by decide) (by decide), nM2 7 (by decide) (by decide), nM2 8 (by decide) (by decide), nM2 9 (by decide) (by decide), nM2 10 (by decide) (by decide)]
  have hVM2 : VM (sg nn N2) N2 := by
    rw [eg]
    exact ⟨by rw [nM2 106 (by decide) (by decide)]; exact hVM.1, fun v hv => by rw [nM2 23 (by decide) (by decide)]; exact hVM.2.1 v hv, fun j hj => by rw [a3.2.1.2.1 24 (by decide)]; exact hVM.2.2 j hj⟩
  obtain ⟨b, M3, N3, j1, j2, j3, j4, j5, j6, j7, j8, j9, j10, j11, j12, _, j13, j14, j15, j16⟩ := judges R2_ z113 z112 hVM2
  -- at the end both take their rows back
  have fin : ∀ (x : Int32) (M4 N4 : Mem), RelN ns nn na nr nk M4 N4 → CFr (oc M2) M4 → MFr N2 N4 → zb (M4.1 113 0) = true → zb (M4.1 112 0) = false → VM (sg nn N2) N4 → M4.1 31 = (oc M2).1 31 → M4.1 32 = (oc M2).1 32 → N4.1 34 = N2.1 34 → N4.1 35 = N2.1 35 →
      ∃ Mc1 Mm1, f_X11_tryChoice_39 x M4 = some (x, Mc1) ∧ f_X12_giveTried N4 = some Mm1 ∧ BI ns nn na nr nk Mc1 Mm1 ∧ Mc1.1 11 = Mc.1 11 ∧ Mm1.1 6 = Mm.1 6 ∧ Mm1.1 8 = Mm.1 8 := by
    intro x M4 N4 R4_ cF mF y113 y112 yVM y31 y32 y34 y35
    have f107 : M4.1 107 0 = nI na := R4_.2.1.2.2.2.1
    have f16 : M4.1 16 = Mc.1 16 := by rw [cF.1 16 (.inl (by omega)), oc_n (by decide) (by decide) (by decide), cM2 16 (by decide) (by decide) (by decide) (by decide)]
    have f11 : M4.1 11 = Mc.1 11 := by rw [cF.1 11 (.inl (by omega)), oc_n (by decide) (by decide) (by decide), cM2 11 (by decide) (by decide) (by decide) (by decide)]
    have ta : f_X3_takeAside M4 = some (yI (yI M4 31 0 28 0 (na * 16 * 7)) 32 0 29 0 na) := by
      unfold f_X3_takeAside f_X7_take_na
      have f1 : ∀ k : Option Mem, ca 0 0 (nI (na * 16 * 7)) 1344 1344 k = k := fun k => ca_nI (a := 0) (b := 0) (by omega) (by omega) (by omega) (by omega)
      have f2 : ∀ k : Option Mem, ca 0 0 (nI na) 12 12 k = k := fun k => ca_nI (a := 0) (b := 0) (by omega) (by omega) (by omega) (by omega)
      rw [f107, i_n16, i_n7, pk_mul, pk_mul, f1, f2, c0, nI_clamp (by omega), nI_clamp (by omega), bm_s]
    generalize hM5 : yI (yI M4 31 0 28 0 (na * 16 * 7)) 32 0 29 0 na = M5 at ta
    have p1 : ∀ c, c ≠ 28 → c ≠ 29 → M5.1 c = M4.1 c := fun c x y => by rw [← hM5, yI_n y, yI_n x]
    have p2 : M5.2 = M4.2 := by rw [← hM5]; rfl
    have p28 : ∀ j, j < na * 112 → M5.1 28 j = Mc.1 28 j := fun j hj => by
      rw [← hM5, yI_n (by decide), yI_e, pk_cpy_in (by omega) (by omega), y31, oc_n (by decide) (by decide) (by decide), a3.1.1 31 (by decide) (by decide), ← m31 j hj]; exact ix (by omega)
    have p29 : ∀ j, j < na → M5.1 29 j = Mc.1 29 j := fun j hj => by
      rw [← hM5, yI_e, pk_cpy_in (by omega) (by omega), yI_n (by decide), y32, oc_n (by decide) (by decide) (by decide), a3.1.1 32 (by decide) (by decide), ← m32 j hj]; exact ix (by omega)
    have gt := gt_eq N4
    generalize hN5 : yI (yI N4 34 0 30 0 40) 35 0 31 0 4480 = N5 at gt
    have q1 : ∀ c, c ≠ 30 → c ≠ 31 → N5.1 c = N4.1 c := fun c x y => by rw [← hN5, yI_n y, yI_n x]
    have q2 : N5.2 = N4.2 := by rw [← hN5]; rfl
    have q30 : ∀ k, k < 40 → N5.1 30 k = N4.1 34 k := fun k hk => by rw [← hN5, yI_n (by decide), yI_e, pk_cpy_in (by omega) (by omega)]; exact ix (by omega)
    have q31 : ∀ k, k < 4480 → N5.1 31 k = N4.1 35 k := fun k hk => by rw [← hN5, yI_e, pk_cpy_in (by omega) (by omega), yI_n (by decide)]; exact ix (by omega)
    have han : ∀ a, a < na → cN_ (Mc.1 16 a) < 40 := fun a ha => by
      obtain ⟨k, hk, e, _⟩ := h2.2.2.2.2.2.2.2.2.2.2.2.1 a ha
      rw [ocn 16 (by omega)] at e
      rw [e, cN_n' (by omega)]; omega
    have OW5 : OW na (Mc.1 16) (Mc.1 11) (M5.1 29) (M5.1 28) (N5.1 30) (N5.1 31) := OW_congr OW0 han p29 p28 (fun m hm => by rw [q30 m hm, y34, nM2 34 (by decide) (by decide)]; exact t34 m hm) (fun m hm => by rw [q31 m hm, y35, nM2 35 (by decide) (by decide)]; exact t35 m hm)
    unfold f_X11_tryChoice_39
    rw [ta, bm_s]
    have e5 : ∀ c, c ≠ 28 → c ≠ 29 → c ≠ 117 → c ≠ 121 → c ≠ 123 → (oc M5).1 c = M4.1 c := fun c x y z u v => by rw [oc_n z u v, p1 c x y]
    have R5_ : RelN ns nn na nr nk (oc M5) N5 := by
      refine RelN_o R4_ (fun c x1 x2 _ _ _ _ x7 _ _ _ x8 _ x9 _ _ _ _ _ _ _ _ _ => e5 c x1 x2 x7 x8 x9) (fun c _ _ _ => by rw [oc_2, p2]) (by rw [oc_2, p2]) (fun c _ x1 x2 _ _ _ => q1 c x1 x2) (by rw [q2]) (by rw [q2]) (oc_f M5).1 (oc_f M5).2.1 (oc_f M5).2.2 ?_
      obtain ⟨_, g2, g3, g4, o, g5, g6, g7⟩ := R4_.2.2.2.2.2.2.1
      rw [oc_n (M := M5) (c := 28) (by decide) (by decide) (by decide), oc_n (M := M5) (c := 29) (by decide) (by decide) (by decide), e5 108 (by decide) (by decide) (by decide) (by decide) (by decide), e5 109 (by decide) (by decide) (by decide) (by decide) (by decide), q1 109 (by decide) (by decide), q1 32 (by decide) (by decide), q1 33 (by decide) (by decide)]
      refine ⟨?_, g2, g3, g4, o, g5, g6, g7⟩
      rw [f16, f11]; exact OW5
    have es5 : sg nn N5 = sg nn N2 := by
      have : pgM nn N5 = pgM nn N4 := by unfold pgM; rw [q1 2 (by decide) (by decide), q1 4 (by decide) (by decide), q1 6 (by decide) (by decide), q1 7 (by decide) (by decide), q1 8 (by decide) (by decide), q1 9 (by decide) (by decide), q1 10 (by decide) (by decide)]
      unfold sg; rw [this, MFr_pg mF]
    refine ⟨M5, N5, rfl, gt, ⟨R5_, by rw [p1 113 (by decide) (by decide)]; exact y113, by rw [p1 112 (by decide) (by decide)]; exact y112, ?_, fun k hk => by rw [q30 k hk, q1 34 (by decide) (by decide)], fun k hk => by rw [q31 k hk, q1 35 (by decide) (by decide)]⟩, by rw [p1 11 (by decide) (by decide)]; exact f11, ?_, ?_⟩
    · rw [es5]
      exact ⟨by rw [q1 106 (by decide) (by decide)]; exact yVM.1, fun v hv => by rw [q1 23 (by decide) (by decide)]; exact yVM.2.1 v hv, fun j hj => by rw [q2]; exact yVM.2.2 j hj⟩
    · rw [q1 6 (by decide) (by decide), mF.1 6 (by unfold mRl; omega), nM2 6 (by decide) (by decide)]
    · rw [q1 8 (by decide) (by decide), mF.1 8 (by unfold mRl; omega), nM2 8 (by decide) (by decide)]
  unfold f_X11_tryChoice
  rw [sa, bm_s, a1, bm_s, oc2, bm_s, j1, bd_s]
  cases b with
  | true =>
    have es3 : sg nn N3 = sg nn N2 := by unfold sg; rw [MFr_pg j5]
    have et3 : tcM nn N3 = tcM nn N2 := tcM_fr j5 nn
    obtain ⟨z, M4, N4, f1, f2, f3, f4, f5, f6, f7, f8, f9, f10, f11, f12, f13⟩ := fetchB j3 j6 j7 (by rw [es3]; exact j10) (by unfold ahM; rw [es3, j5.1 30 (by unfold mRl; omega), j5.1 31 (by unfold mRl; omega)]; exact j11) (by rw [es3, et3]; exact j12) n1 n16 w1 w20
    rw [es3] at f8
    obtain ⟨Mc1, Mm1, g1, g2, g3⟩ := fin (nI z) M4 N4 f3 (CFr_t j4 f4) (MFr_t j5 f5) f6 f7 f8 (f10.trans j13) (f11.trans j14) (f12.trans j15) (f13.trans j16)
    rw [bT, f1, bd_s, g1]
    exact ⟨nI z, Mc1, N2, true, N3, Mm1, rfl, a2, j2, fun _ => ⟨z, N4, f2, rfl, f9, g2⟩, fun y => absurd y (by decide), g3⟩
  | false =>
    obtain ⟨Mc1, Mm1, g1, g2, g3⟩ := fin (-9) M3 N3 j3 j4 j5 j6 j7 j10 j13 j14 j15 j16
    rw [bF, g1]
    exact ⟨-9, Mc1, N2, false, N3, Mm1, rfl, a2, j2, fun y => absurd y (by decide), fun _ => ⟨rfl, g2⟩, g3⟩
end
/-- the best so far, on both sides -/
def StB (d : Nat) (a b u v : Int32) : Prop := (a = -9 ∧ b = -9 ∧ u = -9) ∨ ∃ z c, z ≤ 1200 ∧ c ≤ 4 - d ∧ a = nI z ∧ b = nI c ∧ u = nI (tof d c) ∧ v = nI z
section
variable {ns nn na nr nk : Nat} {j d n w : Nat}
/-- one choice on both sides -/
theorem step2 {Mc Mm : Mem} {a b u v : Int32} {c f : Nat} {K : Int32 → Int32 → Int32 → Int32 → Int32 → Int32 → Int32 → Mem → Option (Int32 × Mem)} (h : BI ns nn na nr nk Mc Mm) (hj : j < nn) (hql : Lq (Mm.1 6) j) (hd : d < 4) (ed : Mc.1 11 j = nI d) (hc : c ≤ 4 - d) (n1 : 1 ≤ n) (n16 : n ≤ 16) (w1 : 1 ≤ w) (w20 : w ≤ 20) (hS : StB d a b u v) :
    ∃ a' b' u' v' Mc1 Mm1, f_X11_best_66 (f + 1) (nI j) (nI n) (nI w) a b (nI (4 - d + 1)) (nI c) Mc = f_X11_best_66 f (nI j) (nI n) (nI w) a' b' (nI (4 - d + 1)) (nI (c + 1)) Mc1 ∧ f_X12_best_98 K (nI j) (nI n) (nI w) u v (nI d) (nI (tof d c)) Mm = K (nI j) (nI n) (nI w) u' v' (nI d) (nI (tof d c + 1)) Mm1 ∧ StB d a' b' u' v' ∧ BI ns nn na nr nk Mc1 Mm1 ∧ Mc1.1 11 = Mc.1 11 ∧ Mm1.1 6 = Mm.1 6 := by
  obtain ⟨x, Mc1, MmA, bb, MmB, Mm1, t1, t2, t3, t4, t5, t6, t7, t8, t9⟩ := try2 h hj hql hd ed hc n1 n16 w1 w20
  have t0 : tof d c ≤ 4 := by
    unfold tof
    by_cases q : c = 0
    · rw [if_pos q]; omega
    · rw [if_neg q]; omega
  rw [f_X11_best_66, if_neg (nI_ge (by omega) (by omega)), t1, bd_s, nI_1]
  unfold f_X12_best_98
  rw [t2, bm_s, t3, bd_s]
  unfold f_X12_best_134 f_X12_best_142
  rw [nI_1]
  cases bb with
  | false =>
    obtain ⟨x1, x2⟩ := t5 rfl
    rw [bF, x1, if_pos (by decide), x2, bm_s]
    exact ⟨a, b, u, v, Mc1, Mm1, rfl, rfl, hS, t6, t7, t8⟩
  | true =>
    obtain ⟨z, MmC, x1, x2, x3, x4⟩ := t4 rfl
    rw [bT, x1, bd_s, x4, bm_s, x2, if_neg (nI_pos (by omega))]
    rcases hS with ⟨s1, s2, s3⟩ | ⟨z0, c0, s1, s2, s3, s4, s5, s6⟩
    · rw [s1, s3, if_pos (by decide), if_pos rfl]
      exact ⟨nI z, nI c, nI (tof d c), nI z, Mc1, Mm1, rfl, rfl, .inr ⟨z, c, x3, hc, rfl, rfl, rfl, rfl⟩, t6, t7, t8⟩
    · have tc : tof d c0 ≤ 4 := by
        unfold tof
        by_cases q : c0 = 0
        · rw [if_pos q]; omega
        · rw [if_neg q]; omega
      rw [s3, s5, s6, if_neg (nI_pos (by omega)), if_neg (nN9 (by omega))]
      by_cases q : z0 ≤ z
      · rw [if_pos (nI_le q (by omega)), if_pos (nI_le q (by omega))]
        exact ⟨nI z0, b, nI (tof d c0), nI z0, Mc1, Mm1, rfl, rfl, .inr ⟨z0, c0, s1, s2, rfl, s4, rfl, rfl⟩, t6, t7, t8⟩
      · rw [if_neg (nI_ge (by omega) (by omega)), if_neg (nI_ge (by omega) (by omega))]
        exact ⟨nI z, nI c, nI (tof d c), nI z, Mc1, Mm1, rfl, rfl, .inr ⟨z, c, x3, hc, rfl, rfl, rfl, rfl⟩, t6, t7, t8⟩
/-- the end of best -/
theorem bend {Mc Mm : Mem} {a b u v : Int32} {f f' : Nat} (h : BI ns nn na nr nk Mc Mm) (hj : j < nn) (hql : Lq (Mm.1 6) j) (hd : d < 4) (ed : Mc.1 11 j = nI d) (hS : StB d a b u v) :
    ∃ (r : Int32) (Mc1 Mm1 : Mem), f_X11_best_66 (f + 1) (nI j) (nI n) (nI w) a b (nI (4 - d + 1)) (nI (4 - d + 1)) Mc = some (r, Mc1) ∧ f_X12_best_80 (f' + 1) (nI j) (nI n) (nI w) u v (nI d) (nI 5) Mm = some (r, Mm1) ∧ Rel Mc1 Mm1 := by
  obtain ⟨hR, h113, h112, hVM, t34, t35⟩ := h
  have oc2 : ∀ M, f_X11_ordersChanged M = some (oc M) := fun _ => rfl
  rw [f_X11_best_66, f_X12_best_80, if_pos (nI_le (by omega) (by omega)), if_pos (show 5 ≤ nI 5 by decide)]
  unfold f_X11_best_134
  rw [oc2, bm_s]
  rcases hS with ⟨s1, s2, s3⟩ | ⟨z, c, s1, s2, s3, s4, s5, s6⟩
  · rw [s2, if_pos (by decide), s3, if_pos rfl, s1]
    exact same_go hR _
  · have tc : tof d c ≤ 4 := by
      unfold tof
      by_cases q : c = 0
      · rw [if_pos q]; omega
      · rw [if_neg q]; omega
    rw [s4, s5, s6, s3, if_neg (nN9 (show tof d c < 2 ^ 31 by omega))]
    by_cases q : c = 0
    · subst q
      rw [if_pos (show nI 0 ≤ 0 by decide), if_pos (show nI (tof d 0) ≤ 0 by unfold tof; rw [if_pos rfl]; decide)]
      exact same_go hR _
    · have tp : 1 ≤ tof d c := by unfold tof; rw [if_neg q]; omega
      rw [if_neg (nI_nle (by omega) (by omega)), if_neg (nI_nle (by omega) (by omega))]
      obtain ⟨Mk, Mt, k1, k2, k3, k4, k5, k6, k34, k35, k7⟩ := turn_done hR
      rw [keep_oc] at k1
      obtain ⟨Mk', e1, e2⟩ : ∃ Mk', f_X3_keep Mc = some Mk' ∧ oc Mk' = Mk := by
        cases e : f_X3_keep Mc with
        | none => rw [e] at k1; exact absurd k1 (by simp)
        | some X => rw [e] at k1; exact ⟨X, rfl, Option.some.inj k1⟩
      have ocn : ∀ (M : Mem) c, c < 117 → (oc M).1 c = M.1 c := fun M c hc => oc_n (by omega) (by omega) (by omega)
      have kc : ∀ c, c < 117 → c ≠ 108 → c ≠ 109 → Mk'.1 c = Mc.1 c := fun c x y z => by
        have := k3 c y z
        rw [← e2, ocn _ c x, ocn _ c x] at this
        exact this
      have h2 : R2' ns nn na (oc Mc) Mm := hR.2.1
      obtain ⟨M, N, a1, a2, a3⟩ := mk2 (C0 := Mk') (N0 := Mm) (R2_w h2 (fun c hc => by rw [kc c (by omega) (by omega) (by omega), ocn _ c (by omega)])) (by
        rw [kc 16 (by decide) (by decide) (by decide), kc 11 (by decide) (by decide) (by decide), kc 29 (by decide) (by decide) (by decide), kc 28 (by decide) (by decide) (by decide)]
        have := hR.2.2.2.2.2.2.1.1
        rw [ocn _ 16 (by omega), ocn _ 11 (by omega), ocn _ 29 (by omega), ocn _ 28 (by omega)] at this
        exact this) hj hql hd (by rw [kc 11 (by decide) (by decide) (by decide)]; exact ed) s2
      have ocM : ∀ c, c ≠ 28 → c ≠ 29 → (oc M).1 c = Mk.1 c := fun c x y => by
        rw [← e2]
        by_cases y1 : c = 117
        · subst y1
          funext k
          unfold oc
          rw [sI_n (show (117 : Nat) ≠ 123 by decide), sI_n (show (117 : Nat) ≠ 121 by decide), sI_n (show (117 : Nat) ≠ 123 by decide), sI_n (show (117 : Nat) ≠ 121 by decide), sI_e, sI_e, a3.1.1 117 (by decide) (by decide)]
        · by_cases y2 : c = 121
          · subst y2
            unfold oc
            rw [sI_n (show (121 : Nat) ≠ 123 by decide), sI_n (show (121 : Nat) ≠ 123 by decide), sI_e, sI_e, sI_n (show (121 : Nat) ≠ 117 by decide), sI_n (show (121 : Nat) ≠ 117 by decide), a3.1.1 121 (by decide) (by decide)]
          · by_cases y3 : c = 123
            · subst y3
              unfold oc
              rw [sI_e, sI_e, sI_n (show (123 : Nat) ≠ 121 by decide), sI_n (show (123 : Nat) ≠ 117 by decide), sI_n (show (123 : Nat) ≠ 121 by decide), sI_n (show (123 : Nat) ≠ 117 by decide), a3.1.1 123 (by decide) (by decide)]
            · rw [oc_n y1 y2 y3, oc_n y1 y2 y3, a3.1.1 c x y]
      have mt : ∀ c, c ≠ 30 → c ≠ 31 → N.1 c = Mt.1 c := fun c x y => by
        rw [a3.2.1.1 c x y]
        rw [kt_eq] at k2
        rw [← Option.some.inj k2]
        by_cases y1 : c = 34
        · subst y1
          rw [yI_n (by decide), yI_e]
          funext k
          by_cases z : k < 40
          · rw [pk_cpy_in (by omega) (by omega), t34 k z]; exact ix (by omega)
          · rw [pk_cpy_out (by omega)]
        · by_cases y2 : c = 35
          · subst y2
            rw [yI_e]
            funext k
            by_cases z : k < 4480
            · rw [pk_cpy_in (by omega) (by omega), yI_n (by decide), t35 k z]; exact ix (by omega)
            · rw [pk_cpy_out (by omega), yI_n (by decide)]
          · rw [yI_n y2, yI_n y1]
      obtain ⟨Mc3, Mm3, v1, v2, v3⟩ := k7 (oc M) N ocM (by rw [oc_2, a3.1.2, ← e2, oc_2]) mt (fun c x => by rw [a3.2.1.2.1 c x, k6]) (by
        rw [ocn _ 29 (by omega), ocn _ 28 (by omega), ocn _ 16 (by omega), ocn _ 11 (by omega), ← kc 16 (by decide) (by decide) (by decide), ← kc 11 (by decide) (by decide) (by decide)]
        exact a3.2.2)
      have v1 : some ((1 : Int32), oc (oc M)) = some (1, Mc3) := v1
      rw [oc_oc] at v1
      have e3 : oc M = Mc3 := (Prod.mk.inj (Option.some.inj v1)).2
      rw [e1, bm_s, a1, bm_s, oc2, bm_s, a2, bm_s, v2, bd_s]
      exact ⟨_, _, _, rfl, rfl, by rw [e3]; exact v3⟩
theorem blp (hj : j < nn) (hd : d < 4) (n1 : 1 ≤ n) (n16 : n ≤ 16) (w1 : 1 ≤ w) (w20 : w ≤ 20) :
    ∀ r c f f' Mc Mm a b u v, 1 ≤ c → c + r = 4 - d + 1 → r < f → r < f' → BI ns nn na nr nk Mc Mm → Lq (Mm.1 6) j → Mc.1 11 j = nI d → StB d a b u v →
    ∃ (y : Int32) (Mc1 Mm1 : Mem), f_X11_best_66 f (nI j) (nI n) (nI w) a b (nI (4 - d + 1)) (nI c) Mc = some (y, Mc1) ∧ f_X12_best_80 f' (nI j) (nI n) (nI w) u v (nI d) (nI (d + c)) Mm = some (y, Mm1) ∧ Rel Mc1 Mm1 := by
  intro r
  induction r with
  | zero =>
    intro c f f' Mc Mm a b u v c1 hc hf hf' h hql ed hS
    obtain ⟨f, rfl⟩ : ∃ z, f = z + 1 := ⟨f - 1, by omega⟩
    obtain ⟨f', rfl⟩ : ∃ z, f' = z + 1 := ⟨f' - 1, by omega⟩
    have : c = 4 - d + 1 := by omega
    subst this
    rw [show d + (4 - d + 1) = 5 by omega]
    exact bend h hj hql hd ed hS
  | succ r ih =>
    intro c f f' Mc Mm a b u v c1 hc hf hf' h hql ed hS
    obtain ⟨f, rfl⟩ : ∃ z, f = z + 1 := ⟨f - 1, by omega⟩
    obtain ⟨f', rfl⟩ : ∃ z, f' = z + 1 := ⟨f' - 1, by omega⟩
    obtain ⟨a', b', u', v', Mc1, Mm1, s1, s2, s3, s4, s5, s6⟩ := step2 (f := f) (K := f_X12_best_80 f') h hj hql hd ed (show c ≤ 4 - d by omega) n1 n16 w1 w20 hS
    have et : tof d c = d + c := by unfold tof; rw [if_neg (by omega)]
    rw [et] at s2
    rw [s1, f_X12_best_80, if_neg (show ¬ 5 ≤ nI (d + c) from nI_ge (b := 5) (by omega) (by decide)), if_neg (show ¬ nI (d + c) = 0 from nI_ne0 (by omega) (by omega)), if_neg (nI_ge (by omega) (by omega)), s2, show d + c + 1 = d + (c + 1) by omega]
    exact ih (c + 1) f f' Mc1 Mm1 a' b' u' v' (by omega) (by omega) (by omega) (by omega) s4 (by rw [s6]; exact hql) (by rw [s5]; exact ed) s3
theorem bskip {u v : Int32} {Mm : Mem} (hd : d < 4) : ∀ r t f, t + r = d + 1 → 1 ≤ t → f_X12_best_80 (f + r) (nI j) (nI n) (nI w) u v (nI d) (nI t) Mm = f_X12_best_80 f (nI j) (nI n) (nI w) u v (nI d) (nI (d + 1)) Mm := by
  intro r
  induction r with
  | zero =>
    intro t f ht h1
    rw [show t = d + 1 by omega, Nat.add_zero]
  | succ r ih =>
    intro t f ht h1
    rw [show f + (r + 1) = (f + r) + 1 from rfl, f_X12_best_80, if_neg (show ¬ 5 ≤ nI t from nI_ge (b := 5) (by omega) (by decide)), if_neg (show ¬ nI t = 0 from nI_ne0 (by omega) (by omega)), if_pos (nI_le (by omega) (by omega)), nI_1]
    exact ih (t + 1) f (by omega) (by omega)
end
theorem sim_best : Sim_best Rel := by
  intro Mc Mm y0 y1 y2 ⟨ns, nn, na, nr, nk, h⟩
  have h2 := h.2.1
  have hn : nn ≤ 40 := h2.2.2.1
  unfold f_X11_best f_X12_best f_X11_roomFits
  rw [kn_eq h2.1 (by omega), no_eq h2.2.1 (by omega), in_w 1 16, in_w 1 20, wi_d, wi_d]
  cases e0 : inN y0 nn with
  | false => exact same_go h _
  | true =>
    obtain ⟨j, hj, rfl⟩ := inN_t e0
    simp only [bq_s, bT, if_true]
    by_cases q1 : 1 ≤ y1 ∧ y1 ≤ 16
    · by_cases q2 : 1 ≤ y2 ∧ y2 ≤ 20
      · obtain ⟨n, n1, n16, rfl⟩ := rng1 y1 1 16 (by decide) (by decide) q1.1 q1.2
        obtain ⟨w, w1, w20, rfl⟩ := rng1 y2 1 20 (by decide) (by decide) q2.1 q2.2
        rw [decide_eq_true q1, decide_eq_true q2]
        simp only [if_true, bq_s]
        obtain ⟨Mc1, Mm1, c1, m1, hR, hcF, hmF, hv⟩ := walks h
        rw [c1, m1, bd_s, bd_s]
        cases es : wS (wkA (pgM nn Mm)) with
        | true => exact same_go hR _
        | false =>
          obtain ⟨v1, v2, v3, v4⟩ := hv es
          rw [← MFr_pg hmF nn] at v1 v4
          have g2 := hR.2.1
          obtain ⟨k1, k2, k3, k4, k5⟩ := g2.2.2.2.2.2.2.1
          obtain ⟨b, b1, b2, b3, _⟩ := isLp_b (M := Mc1) (N := Mm1) (j := j) (by omega) k1
          rw [bF, bF, b1, b2, bq_s, bq_s]
          cases b with
          | false => exact meet_go hR 3 (by decide) rfl
          | true =>
            have hql := b3 rfl
            obtain ⟨d, hd, ed⟩ : ∃ d, d < 4 ∧ Mc1.1 11 j = nI d := ⟨_, (g2.2.2.2.2.2.2.2.1 j hj).2.2.1.2.2 (by rw [k1]; exact hql), (g2.2.2.2.2.2.2.2.1 j hj).2.2.1.1⟩
            have kt := kt_eq Mm1
            generalize hMt : yI (yI Mm1 30 0 34 0 40) 31 0 35 0 4480 = Mt at kt
            have mt : ∀ c, c ≠ 34 → c ≠ 35 → Mt.1 c = Mm1.1 c := fun c x y => by rw [← hMt, yI_n y, yI_n x]
            have mt2 : Mt.2 = Mm1.2 := by rw [← hMt]; rfl
            have mF : MFr Mm1 Mt := ⟨fun c z => by unfold mRl at z; exact mt c (by omega) (by omega), by rw [mt2], by rw [mt2]⟩
            have bi : BI ns nn na nr nk Mc1 Mt := by
              refine ⟨RelN_fr hR ⟨fun c z => by unfold cRl at z; exact oc_n (by omega) (by omega) (by omega), rfl, rfl, rfl⟩ mF (R8_m ?_ mF), v2, v3, ?_, fun k hk => ?_, fun k hk => ?_⟩
              · unfold R8'
                rw [(oc_f Mc1).1, (oc_f Mc1).2.1, (oc_f Mc1).2.2]
                have o : ∀ c, c ≠ 117 → c ≠ 121 → c ≠ 123 → (oc Mc1).1 c = Mc1.1 c := fun c a b d => oc_n a b d
                rw [o 16 (by decide) (by decide) (by decide), o 11 (by decide) (by decide) (by decide), o 14 (by decide) (by decide) (by decide), o 110 (by decide) (by decide) (by decide), o 112 (by decide) (by decide) (by decide), o 113 (by decide) (by decide) (by decide), o 114 (by decide) (by decide) (by decide), o 115 (by decide) (by decide) (by decide), o 116 (by decide) (by decide) (by decide), o 118 (by decide) (by decide) (by decide), o 119 (by decide) (by decide) (by decide), o 120 (by decide) (by decide) (by decide), o 122 (by decide) (by decide) (by decide), o 35 (by decide) (by decide) (by decide), o 41 (by decide) (by decide) (by decide), o 44 (by decide) (by decide) (by decide), o 45 (by decide) (by decide) (by decide), o 46 (by decide) (by decide) (by decide), o 47 (by decide) (by decide) (by decide), o 57 (by decide) (by decide) (by decide), o 59 (by decide) (by decide) (by decide), o 62 (by decide) (by decide) (by decide)]
                exact R8_ord hR.2.2.2.2.2.2.2
              · have es : sg nn Mt = sg nn Mm1 := by unfold sg; rw [MFr_pg mF]
                rw [es]
                exact ⟨by rw [mt 106 (by decide) (by decide)]; exact v1.1, fun v hv => by rw [mt 23 (by decide) (by decide)]; exact v1.2.1 v hv, fun j hj => by rw [mt2]; exact v1.2.2 j hj⟩
              · rw [mt 30 (by decide) (by decide), ← hMt, yI_n (by decide), yI_e, pk_cpy_in (by omega) (by omega)]; exact ix (by omega)
              · rw [mt 31 (by decide) (by decide), ← hMt, yI_e, pk_cpy_in (by omega) (by omega), yI_n (by decide)]; exact ix (by omega)
            unfold f_X11_choicesOf
            rw [bT, bT, kt, bm_s, ck40 (by omega), ck40 (by omega), nI_clamp (by omega), ed, mt 8 (by decide) (by decide), ← k3, ed, i_n4, pk_sub (by omega), nI_1, bq_s, i_n0]
            obtain ⟨a', b', u', v', Mc2, Mm2, s1, s2, s3, s4, s5, s6⟩ := step2 (f := 99999) (K := f_X12_best_80 99999) (c := 0) (a := -9) (b := -9) (u := -9) (v := nI 0) bi hj (by rw [mt 6 (by decide) (by decide)]; exact hql) hd ed (by omega) n1 n16 w1 w20 (.inl ⟨rfl, rfl, rfl⟩)
            have et : tof d 0 = 0 := if_pos rfl
            rw [et] at s2
            rw [show (100000 : Nat) = 99999 + 1 from rfl, s1, f_X12_best_80, if_neg (show ¬ 5 ≤ nI 0 by decide), if_pos (show nI 0 = 0 from rfl), s2]
            have sk := bskip (j := j) (n := n) (w := w) (u := u') (v := v') (Mm := Mm2) (d := d) hd d 1 (99999 - d) (by omega) (by omega)
            rw [show 99999 - d + d = 99999 by omega] at sk
            rw [show (0 : Nat) + 1 = 1 from rfl, sk]
            exact blp (ns := ns) (na := na) (nr := nr) (nk := nk) hj hd n1 n16 w1 w20 (4 - d) 1 99999 (99999 - d) Mc2 Mm2 a' b' u' v' (by omega) (by omega) (by omega) (by omega) s4 (by rw [s6, mt 6 (by decide) (by decide)]; exact hql) (by rw [s5]; exact ed) s3
      · rw [decide_eq_true q1, decide_eq_false q2]; exact same_go h _
    · rw [decide_eq_false q1]; exact same_go h _
