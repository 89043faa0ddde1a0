/-! the pure half: needs are gathered -/
section
variable {na : Nat} {an lp ar : Nat → Int32} {σ : Ws} {M0 : Mem}
/-- what the tables of common loops need -/
def CM0 (na : Nat) (M : Mem) : Prop := na ≤ 12 ∧ M.1 107 0 = nI na ∧ ∀ a, a < na → ∃ k, k < 40 ∧ M.1 16 a = nI k ∧ M.1 11 k = nI (cN_ (M.1 11 k)) ∧ cN_ (M.1 11 k) ≤ 4
theorem CM_o {M M' : Mem} (h : CM0 na M) (e : On 48 M M') : CM0 na M' := by
  unfold CM0 at *
  rw [e.1 107 (by decide), e.1 16 (by decide), e.1 11 (by decide)]; exact h
theorem cl81 {k68 : Int32 → Mem → Option Mem} {a : Nat} (h0 : CM0 na M0) (ha : a < na) :
    ∀ r b f M, b + r = na → r < f → On 48 M0 M → (∀ b', b' < b → M.1 48 (a * 12 + b') = nI (cmA (M0.1 11) (M0.1 14) (M0.1 16) a b')) →
    ∃ M', f_X1_clear_81 k68 f (nI a) (nI b) M = k68 (nI (a + 1)) M' ∧ On 48 M0 M' ∧ (∀ b', b' < na → M'.1 48 (a * 12 + b') = nI (cmA (M0.1 11) (M0.1 14) (M0.1 16) a b')) ∧ ∀ j, j < a * 12 → M'.1 48 j = M.1 48 j := by
  have hna := h0.1
  intro r
  induction r with
  | zero =>
    intro b f M hb hf hO h1
    obtain ⟨f, rfl⟩ : ∃ z, f = z + 1 := ⟨f - 1, by omega⟩
    rw [f_X1_clear_81, (CM_o h0 hO).2.1, if_pos (nI_le (by omega) (by omega)), nI_1]
    exact ⟨M, rfl, hO, fun b' hb' => h1 b' (by omega), fun _ _ => rfl⟩
  | succ r ih =>
    intro b f M hb hf hO h1
    obtain ⟨f, rfl⟩ : ∃ z, f = z + 1 := ⟨f - 1, by omega⟩
    have hM := CM_o h0 hO
    obtain ⟨m, m1, m2, m3, m4⟩ := hM.2.2 a ha
    obtain ⟨n, n1, n2, n3, n4⟩ := hM.2.2 b (by omega)
    have ec : comO (M.1 11) (M.1 14) m n 4 0 = cmA (M0.1 11) (M0.1 14) (M0.1 16) a b := by
      unfold cmA
      rw [← hO.1 16 (by decide), m2, n2, cN_n' (by omega), cN_n' (by omega), hO.1 11 (by decide), hO.1 14 (by decide)]
    rw [f_X1_clear_81, hM.2.1, if_neg (nI_ge (by omega) (by omega)), ck_nI (by omega) (by omega), ck_nI (by omega) (by omega), nI_clamp (by omega), nI_clamp (by omega), m2, n2, cmo_eq m1 n1 m3 n3 m4 n4, bq_s, i_n12, pk_mul, nI_add, ck_nI (by omega) (by omega), nI_clamp (by omega), nI_1, ec]
    obtain ⟨M', g1, g2, g3, g4⟩ := ih (b + 1) f (sI M 48 (a * 12 + b) (nI (cmA (M0.1 11) (M0.1 14) (M0.1 16) a b))) (by omega) (by omega) (On_s hO) (fun b' hb' => by
      by_cases z : b' = b
      · rw [z, sI_e, pk_us]
      · rw [sI_e, pk_un (by omega)]; exact h1 b' (by omega))
    exact ⟨M', g1, g2, g3, fun j hj => by rw [g4 j hj, sI_e, pk_un (by omega)]⟩
theorem cl68 (h0 : CM0 na M0) :
    ∀ r a f M, a + r = na → r < f → On 48 M0 M → (∀ a', a' < a → ∀ b', b' < na → M.1 48 (a' * 12 + b') = nI (cmA (M0.1 11) (M0.1 14) (M0.1 16) a' b')) →
    ∃ M', f_X1_clear_68 f (nI a) M = some M' ∧ On 48 M0 M' ∧ ∀ a', a' < na → ∀ b', b' < na → M'.1 48 (a' * 12 + b') = nI (cmA (M0.1 11) (M0.1 14) (M0.1 16) a' b') := by
  have hna := h0.1
  intro r
  induction r with
  | zero =>
    intro a f M ha hf hO h1
    obtain ⟨f, rfl⟩ : ∃ z, f = z + 1 := ⟨f - 1, by omega⟩
    rw [f_X1_clear_68, (CM_o h0 hO).2.1, if_pos (nI_le (by omega) (by omega))]
    exact ⟨M, rfl, hO, fun a' ha' => h1 a' (by omega)⟩
  | succ r ih =>
    intro a f M ha hf hO h1
    obtain ⟨f, rfl⟩ : ∃ z, f = z + 1 := ⟨f - 1, by omega⟩
    rw [f_X1_clear_68, (CM_o h0 hO).2.1, if_neg (nI_ge (by omega) (by omega)), i_n0]
    obtain ⟨M1, g1, g2, g3, g4⟩ := cl81 (k68 := f_X1_clear_68 f) (a := a) h0 (by omega) na 0 100000 M (by omega) (by omega) hO (fun b' hb' => absurd hb' (by omega))
    rw [g1]
    refine ih (a + 1) f M1 (by omega) (by omega) g2 (fun a' ha' b' hb' => ?_)
    by_cases z : a' = a
    · rw [z]; exact g3 b' hb'
    · rw [g4 _ (by omega)]; exact h1 a' (by omega) b' hb'
end
theorem cnt3_0 {n : Nat} {C : Tri} : cnt3 n (fun v w k => C v w k ∧ False) = 0 := by
  apply Classical.byContradiction
  intro h
  obtain ⟨v, w, k, _, _, _, z⟩ := cnt3_nz h
  exact z.2
theorem lat_0 {P : Nat → Prop} : lat P 0 (-9) := .inl ⟨rfl, fun v hv => absurd hv (by omega)⟩
theorem clear_ok {na sp n : Nat} {T : Tc} {σ : Ws} {M : Mem} (h0 : CM0 na M) (h114 : M.1 114 0 = nI sp) (hU : US n sp T (M.1 41)) :
    ∃ M', f_X1_clear M = some M' ∧ OnR M M' ∧ (∀ a, a < na → ∀ b, b < na → M'.1 48 (a * 12 + b) = nI (cmA (M.1 11) (M.1 14) (M.1 16) a b)) ∧ GI na (M.1 16) (M.1 11) (M.1 14) σ (fun _ _ _ => False) M' ∧ CWl sp (M'.1 41) (M'.1 51) (M'.1 52) 0 ∧ CRl sp (M'.1 41) (M'.1 53) (M'.1 54) 0 := by
  have hsp := hU.1
  have hna := h0.1
  have e0 : (0 : Int32).toNatClampNeg = 0 := by decide
  unfold f_X1_clear
  have x114 : (fI (fI (fI (fI M 44 0 432 0) 45 0 5 0) 46 0 144 0) 47 0 720 0).1 114 0 = nI sp := by rw [fI_n (by decide), fI_n (by decide), fI_n (by decide), fI_n (by decide)]; exact h114
  rw [fI_n (show 114 ≠ 51 by decide), x114, e0, nI_clamp (by omega), i_n0, cf_nI (by omega) hsp (by decide), cf_nI (by omega) hsp (by decide), ← i_n0]
  generalize hM1 : fI (fI (fI (fI (fI (fI M 44 0 432 0) 45 0 5 0) 46 0 144 0) 47 0 720 0) 51 0 sp (-9)) 53 0 sp (-9) = M1
  have oth : ∀ c, c ≠ 44 → c ≠ 45 → c ≠ 46 → c ≠ 47 → c ≠ 51 → c ≠ 53 → M1.1 c = M.1 c := fun c x1 x2 x3 x4 x5 x6 => by
    rw [← hM1, fI_n x6, fI_n x5, fI_n x4, fI_n x3, fI_n x2, fI_n x1]
  have two : M1.2 = M.2 := by rw [← hM1]; rfl
  have h1 : CM0 na M1 := by
    unfold CM0
    rw [oth 107 (by decide) (by decide) (by decide) (by decide) (by decide) (by decide), oth 16 (by decide) (by decide) (by decide) (by decide) (by decide) (by decide), oth 11 (by decide) (by decide) (by decide) (by decide) (by decide) (by decide)]; exact h0
  obtain ⟨M2, g1, g2, g3⟩ := cl68 h1 na 0 100000 M1 (by omega) (by omega) (On_r 48 M1) (fun a' ha' => absurd ha' (by omega))
  have g1 : f_X1_clear_68 100000 0 M1 = some M2 := g1
  rw [g1]
  have e44 : M2.1 44 = fl_ (M.1 44) 0 432 0 := by rw [g2.1 44 (by decide), ← hM1, fI_n (by decide), fI_n (by decide), fI_n (by decide), fI_n (by decide), fI_n (by decide), fI_e]
  have e45 : M2.1 45 = fl_ (M.1 45) 0 5 0 := by rw [g2.1 45 (by decide), ← hM1, fI_n (by decide), fI_n (by decide), fI_n (by decide), fI_n (by decide), fI_e, fI_n (by decide)]
  have e46 : M2.1 46 = fl_ (M.1 46) 0 144 0 := by rw [g2.1 46 (by decide), ← hM1, fI_n (by decide), fI_n (by decide), fI_n (by decide), fI_e, fI_n (by decide), fI_n (by decide)]
  have e47 : M2.1 47 = fl_ (M.1 47) 0 720 0 := by rw [g2.1 47 (by decide), ← hM1, fI_n (by decide), fI_n (by decide), fI_e, fI_n (by decide), fI_n (by decide), fI_n (by decide)]
  have e51 : M2.1 51 = fl_ (M.1 51) 0 sp (-9) := by rw [g2.1 51 (by decide), ← hM1, fI_n (by decide), fI_e, fI_n (by decide), fI_n (by decide), fI_n (by decide), fI_n (by decide)]
  have e53 : M2.1 53 = fl_ (M.1 53) 0 sp (-9) := by rw [g2.1 53 (by decide), ← hM1, fI_e, fI_n (by decide), fI_n (by decide), fI_n (by decide), fI_n (by decide), fI_n (by decide)]
  refine ⟨M2, rfl, ⟨fun c z => by rw [g2.1 c (by omega), oth c (by omega) (by omega) (by omega) (by omega) (by omega) (by omega)], fun c _ _ => by rw [g2.2, two], by rw [g2.2, two]⟩, ?_, ⟨fun v w k z => absurd z id, ?_, ?_, ?_, ?_, fun a _ b _ d _ v w k z => absurd z id⟩, ⟨fun s hs => ?_, fun v hv => absurd hv (by omega)⟩, ⟨fun s hs => ?_, fun v hv => absurd hv (by omega)⟩⟩
  · rw [oth 11 (by decide) (by decide) (by decide) (by decide) (by decide) (by decide), oth 14 (by decide) (by decide) (by decide) (by decide) (by decide) (by decide), oth 16 (by decide) (by decide) (by decide) (by decide) (by decide) (by decide)] at g3; exact g3
  · intro a ha b hb k hk
    rw [cnt3_0 (C := fun v w k' => Cab (M.1 16) σ a b v w ∧ k' = k), e44, fl_in ⟨by omega, by omega⟩]; rfl
  · intro d hd
    rw [cnt3_0 (C := fun v w _ => depO (M.1 11) (M.1 14) σ v w = d), e45, fl_in ⟨by omega, by omega⟩]; rfl
  · intro a ha b hb
    rw [cnt3_0 (C := fun v w _ => Cab (M.1 16) σ a b v w), e46, fl_in ⟨by omega, by omega⟩]; rfl
  · intro a ha b hb d hd
    rw [cnt3_0 (C := fun v w _ => Cab (M.1 16) σ a b v w ∧ depO (M.1 11) (M.1 14) σ v w = d), e47, fl_in ⟨by omega, by omega⟩]; rfl
  · rw [e51, fl_in ⟨by omega, hs⟩]; exact lat_0
  · rw [e53, fl_in ⟨by omega, hs⟩]; exact lat_0
theorem NW_of {na : Nat} {an lp ar : Nat → Int32} {σ : Ws} {T : Tc} {M : Mem} (h : GI na an lp ar σ (GO T (wN σ)) M) : NW na an lp ar σ T (M.1 44) (M.1 45) (M.1 46) (M.1 47) (M.2.1 49) (M.2.1 50) := by
  obtain ⟨g1, g2, g3, g4, g5, g6⟩ := h
  refine ⟨fun a ha b hb k hk => ?_, fun d hd => ?_, fun a ha b hb => ?_, fun a ha b hb d hd => ?_, fun a ha b hb d hd w hw v hv k hk ea eb hn => ?_⟩
  · rw [g2 a ha b hb k hk, ← cnt3_k (P := fun v w k => an a = nI (wA σ v) ∧ an b = nI (wA σ w) ∧ need T v w k) hk]
    congr 1
    exact cnt3_e (fun v w k' x y z => ⟨fun q => ⟨⟨q.1.1.1, q.1.1.2, q.2.2.2.2⟩, q.1.2⟩, fun q => ⟨⟨⟨q.1.1, q.1.2.1⟩, q.2⟩, x, y, z, q.1.2.2⟩⟩)
  · rw [g3 d hd]
    congr 1
    exact cnt3_e (Q := fun v w k => need T v w k ∧ depO lp ar σ v w = d) (fun v w k' x y z => ⟨fun q => ⟨q.2.2.2.2, q.1⟩, fun q => ⟨q.2, x, y, z, q.1⟩⟩)
  · rw [g4 a ha b hb]
    congr 1
    exact cnt3_e (Q := fun v w k => an a = nI (wA σ v) ∧ an b = nI (wA σ w) ∧ need T v w k) (fun v w k' x y z => ⟨fun q => ⟨q.1.1, q.1.2, q.2.2.2.2⟩, fun q => ⟨⟨q.1, q.2.1⟩, x, y, z, q.2.2⟩⟩)
  · rw [g5 a ha b hb d hd]
    congr 1
    exact cnt3_e (Q := fun v w k => an a = nI (wA σ v) ∧ an b = nI (wA σ w) ∧ need T v w k ∧ depO lp ar σ v w = d) (fun v w k' x y z => ⟨fun q => ⟨q.1.1.1, q.1.1.2, q.2.2.2.2, q.1.2⟩, fun q => ⟨⟨⟨q.1, q.2.1⟩, q.2.2.2⟩, x, y, z, q.2.2.1⟩⟩)
  · obtain ⟨e1, e2, ⟨v1, w1, k1, x1, x2, x3⟩, ⟨v2, w2, k2, y1, y2, y3⟩⟩ := g6 a ha b hb d hd v w k ⟨hv, hw, hk, hn⟩ ⟨ea, eb⟩
    exact ⟨e1, e2, ⟨w1, v1, k1, x1.2.1, x1.1, x1.2.2.1, x2.1, x2.2, x1.2.2.2, x3⟩, ⟨w2, v2, k2, y1.2.1, y1.1, y1.2.2.1, y2.1, y2.2, y1.2.2.2, y3⟩⟩
section
variable {ns nn na nr nk : Nat} {Mc Mm : Mem}
theorem needs2 (h : RelN ns nn na nr nk Mc Mm) (h113 : zb (Mc.1 113 0) = true) (h112 : zb (Mc.1 112 0) = false) :
    ∃ Mc1, f_X1_refresh Mc = some Mc1 ∧ RelN ns nn na nr nk Mc1 Mm ∧ CFr Mc Mc1 ∧ zb (Mc1.1 113 0) = true ∧ zb (Mc1.1 112 0) = false ∧ NW na (Mc1.1 16) (Mc1.1 11) (Mc1.1 14) (sg nn Mm) (tcM nn Mm) (Mc1.1 44) (Mc1.1 45) (Mc1.1 46) (Mc1.1 47) (Mc1.2.1 49) (Mc1.2.1 50) := by
  have h8 := h.2.2.2.2.2.2.2
  unfold f_X1_refresh
  by_cases q : zb (Mc.1 116 0) = true
  · rw [if_pos q]
    exact ⟨Mc, rfl, h, CFr_r Mc, h113, h112, (h8.2.2.1 q).2⟩
  · rw [if_neg q]
    obtain ⟨Mc1, a1, a2, a3, a4, a5⟩ := touches h h113 h112
    have t := a3.1
    have g8 := a2.2.2.2.2.2.2.2
    have e113 : zb (Mc1.1 113 0) = true := by rw [t 113 (by decide) (by decide) (by decide) (by decide)]; exact h113
    have e112 : zb (Mc1.1 112 0) = false := by rw [t 112 (by decide) (by decide) (by decide) (by decide)]; exact h112
    have hV := VWc_of a2 e113 e112
    have hR2 := a2.2.1
    have hna : na ≤ 12 := hR2.2.2.2.2.2.1
    have hnn : nn ≤ 40 := hR2.2.2.1
    obtain ⟨sp, u1, u2⟩ := US_of a5
    have hTW := hR2.2.2.2.2.2.2.2.1
    have hCW := hR2.2.2.2.2.2.2.2.2.2.2.2
    obtain ⟨M2, b1, b2, b3, b4, b5, b6⟩ := clear_ok (na := na) (σ := sg nn Mm) (M := Mc1) ⟨hna, hR2.2.2.2.1, fun a ha => by
      obtain ⟨k, k1, k2, k3, k4⟩ := hCW.1 a ha
      have := (hTW k k1).2.2.1
      exact ⟨k, by omega, k2, this.1, this.2.1⟩⟩ u1 u2
    have gc : GC na (Mc1.1 16) (Mc1.1 11) (Mc1.1 14) (sg nn Mm) M2 := by
      refine ⟨hna, hV.2.1, wk40 h, fun a b ha hb e => ?_, fun v hv => ?_, b3⟩
      · rcases Nat.lt_trichotomy a b with z | z | z
        · have := hCW.2.2 a b z hb; rw [e] at this; omega
        · exact z
        · have := hCW.2.2 b a z ha; rw [e] at this; omega
      · rw [b2.1 35 (by omega), b2.2.1 36 (by decide) (by decide)]; exact hV.2.2 v hv
    obtain ⟨M3, d1, d2, d3⟩ := nf21 (na := na) (an := Mc1.1 16) (lp := Mc1.1 11) (ar := Mc1.1 14) (σ := sg nn Mm) (T := tcM nn Mm) (sp := sp) (M := Mc1) u2 (wN (sg nn Mm)) 0 100000 M2 (by omega) (by have := hV.2.1; omega) b2 (by rw [b2.1 110 (by omega)]; exact hV.1) gc (GI_c b4 (fun v w k => ⟨fun z => absurd z id, fun z => by have := z.2.1; omega⟩)) b5 b6
    have d1 : f_X1_refresh_21 100000 0 M2 = _ := d1
    rw [a1, bm_s, b1, bm_s, d1]
    have g : ∀ c, (c < 44 ∨ 54 < c ∧ c ≠ 116) → (sI M3 116 0 (bI true)).1 c = Mc1.1 c := fun c z => by rw [sI_n (by omega)]; exact d2.1 c (by omega)
    have hF : CFr Mc1 (sI M3 116 0 (bI true)) := ⟨fun c z => by unfold cRl at z; exact g c (by omega), d2.2.1 101 (by decide) (by decide), d2.2.1 68 (by decide) (by decide), d2.2.2⟩
    have hN : NW na ((sI M3 116 0 (bI true)).1 16) ((sI M3 116 0 (bI true)).1 11) ((sI M3 116 0 (bI true)).1 14) (sg nn Mm) (tcM nn Mm) ((sI M3 116 0 (bI true)).1 44) ((sI M3 116 0 (bI true)).1 45) ((sI M3 116 0 (bI true)).1 46) ((sI M3 116 0 (bI true)).1 47) ((sI M3 116 0 (bI true)).2.1 49) ((sI M3 116 0 (bI true)).2.1 50) := by
      rw [g 16 (by omega), g 11 (by omega), g 14 (by omega), sI_n (by decide), sI_n (by decide), sI_n (by decide), sI_n (by decide), sI_2]
      exact NW_of d3
    refine ⟨_, rfl, RelN_fr a2 hF (MFr_r Mm) ?_, CFr_t (UFr_C a3) hF, by rw [g 113 (by omega)]; exact e113, by rw [g 112 (by omega)]; exact e112, hN⟩
    have g2 : ∀ c, c ≠ 49 → c ≠ 50 → (sI M3 116 0 (bI true)).2.1 c = Mc1.2.1 c := d2.2.1
    unfold R8'
    rw [g 110 (by omega), g 112 (by omega), g 113 (by omega), g 114 (by omega), g 115 (by omega), g 117 (by omega), g 118 (by omega), g 119 (by omega), g 120 (by omega), g 121 (by omega), g 122 (by omega), g 123 (by omega), g 35 (by omega), g2 36 (by decide) (by decide), g2 39 (by decide) (by decide), g2 40 (by decide) (by decide), g 41 (by omega), g 57 (by omega), g 59 (by omega), g 62 (by omega)]
    refine ⟨?_, g8.2.1, fun _ => ⟨a4, hN⟩, g8.2.2.2.1, g8.2.2.2.2.1, g8.2.2.2.2.2⟩
    rw [g 16 (by omega)]
    exact g8.1
end
