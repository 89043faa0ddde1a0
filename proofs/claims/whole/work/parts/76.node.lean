/-! the pure half: loop, test, act -/
theorem mn58 {n : Nat} (hn : n < 40) : ∀ m k f M, k + m = 3 → m < f → M.1 102 0 = nI n → f_X12_makeNode_58 f (nI k) M = bm (f_X12_firstOrders (sI (fI M 11 (3 * n + k) (3 * n + 3) (-9)) 102 0 (nI (n + 1)))) (fun M11 => some ((M11.1 102 0) - 1, M11)) := by
  intro m
  induction m with
  | zero =>
    intro k f M hk hf h
    obtain ⟨f, rfl⟩ : ∃ z, f = z + 1 := ⟨f - 1, by omega⟩
    have : k = 3 := by omega
    subst this
    rw [f_X12_makeNode_58, if_pos (by decide), fI_nil, h, nI_1]
  | succ m ih =>
    intro k f M hk hf h
    obtain ⟨f, rfl⟩ : ∃ z, f = z + 1 := ⟨f - 1, by omega⟩
    rw [f_X12_makeNode_58, h, i_n3, if_neg (nI_ge (by omega) (by omega)), pk_mul, nI_add, ck_nI (by omega) (by omega), nI_clamp (by omega), nI_1, ih (k + 1) f _ (by omega) (by omega) (by rw [sI_n (by decide)]; exact h), ← Nat.add_assoc, fI_step (by omega)]
theorem TW_ext {ns n l hp : Nat} {kd pa lp fi se : Nat → Int32} {x p one two : Int32} (hn : n < 40) (hl4 : l ≤ 4) (h : TW ns n kd pa lp fi se) (hP : PaO n kd p hp) (hl : lvO kd lp p hp l) (hx : x = 0 ∨ x = 1 ∨ x = 2 ∨ x = 3) (hlx : x = 0 ∨ x = 1 → l < 4)
    (h1 : x ≠ 3 → ∃ s, s < ns ∧ one = nI s) (h2 : x = 0 ∨ x = 1 → ∃ s, s < ns ∧ two = nI s) (h3 : x = 2 → ∃ m, m ≤ 1000 ∧ two = nI m) : TW ns (n + 1) (upd kd n x) (upd pa n p) (upd lp n (nI l)) (upd fi n one) (upd se n two) := by
  intro k hk
  by_cases z : k = n
  · subst z
    have eL : upd kd k x k = x := pk_us
    have ecn : cN_ (nI l) = l := cN_n' (by omega)
    unfold Lq
    rw [pk_us, pk_us, pk_us, pk_us, pk_us, ecn]
    refine ⟨hx, ?_, ⟨rfl, hl4, hlx⟩, fun y => ?_, fun y w => ?_, fun y w => ?_, h1, h2, h3⟩
    · rcases hP with ⟨y, _⟩ | ⟨y1, y2, y3⟩
      · exact .inl y
      · rw [y1, cN_n' (by omega), pk_un (by omega)]; exact .inr ⟨rfl, y2, y3⟩
    · rcases hl with ⟨_, e⟩ | ⟨e, _⟩ | ⟨e, _⟩
      · exact e
      · exact absurd y e
      · exact absurd y e
    · rcases hP with ⟨v, _⟩ | ⟨y1, y2, y3⟩
      · exact absurd v y
      · rw [y1, cN_n' (by omega), pk_un (by omega)] at w
        rw [y1, cN_n' (by omega), pk_un (by omega)]
        rcases hl with ⟨e, _⟩ | ⟨_, _, e⟩ | ⟨_, e, _⟩
        · exact absurd e y
        · exact e
        · exact absurd w e
    · rcases hP with ⟨v, _⟩ | ⟨y1, y2, y3⟩
      · exact absurd v y
      · rw [y1, cN_n' (by omega), pk_un (by omega)] at w
        rw [y1, cN_n' (by omega), pk_un (by omega)]
        rcases hl with ⟨e, _⟩ | ⟨_, e, _⟩ | ⟨_, _, e⟩
        · exact absurd e y
        · exact absurd e w
        · exact e
  · obtain ⟨t1, t2, t3, t4, t5, t6, t7, t8, t9⟩ := h k (by omega)
    unfold Lq at *
    rw [pk_un z, pk_un z, pk_un z, pk_un z, pk_un z]
    rcases t2 with y | ⟨y1, y2, y3⟩
    · exact ⟨t1, .inl y, t3, t4, fun w => absurd y w, fun w => absurd y w, t7, t8, t9⟩
    · rw [pk_un (show cN_ (pa k) ≠ n by omega), pk_un (show cN_ (pa k) ≠ n by omega)]
      exact ⟨t1, .inr ⟨y1, y2, y3⟩, t3, t4, t5, t6, t7, t8, t9⟩
theorem grow_rel {ns nn na nr nk hp l : Nat} {Mc Mm Mn : Mem} {x p one two : Int32} (h : RelN ns nn na nr nk Mc Mm) (hn : nn < 40) (hl4 : l ≤ 4) (hP : PaO nn (Mc.1 9) p hp) (hl : lvO (Mc.1 9) (Mc.1 11) p hp l) (hx : x = 0 ∨ x = 1 ∨ x = 2 ∨ x = 3) (hlx : x = 0 ∨ x = 1 → l < 4)
    (g1 : x ≠ 3 → ∃ s, s < ns ∧ one = nI s) (g2 : x = 0 ∨ x = 1 → ∃ s, s < ns ∧ two = nI s) (g3 : x = 2 → ∃ m, m ≤ 1000 ∧ two = nI m) (ga : x = 3 → na < 12) (hMn : (x ≠ 3 ∧ Mn = Mm) ∨ (x = 3 ∧ Mn = sI Mm 103 0 (nI (na + 1)))) :
    ∃ Mc' Mm', f_X11_grow Mc p x one two = some (nI nn, Mc') ∧ f_X12_makeNode Mn x p one two = some (nI nn, Mm') ∧ Rel Mc' Mm' := by
  obtain ⟨h1, h2, h3, h4, h5, h6, h7, h8⟩ := h
  obtain ⟨b1, b2, b3, b4, b5, b6, ⟨k1, k2, k3, k4, k5⟩, bT, bL, bA, bP, bC⟩ := h2
  have hne : hp ≠ nn := by rcases hP with ⟨_, z⟩ | ⟨_, z, _⟩ <;> omega
  have hh : hp < nn ∨ hp = 40 := by
    rcases hP with ⟨_, z⟩ | ⟨_, z, _⟩
    · exact .inr z
    · exact .inl z
  have hLp : hp < nn → Mc.1 11 hp = nI (cN_ (Mc.1 11 hp)) ∧ cN_ (Mc.1 11 hp) ≤ 4 := fun z => ⟨(bT hp z).2.2.1.1, (bT hp z).2.2.1.2.1⟩
  have mn : ∀ c, c ≠ 103 → Mn.1 c = Mm.1 c := fun c hc => by
    rcases hMn with ⟨_, e⟩ | ⟨_, e⟩
    · rw [e]
    · rw [e, sI_n hc]
  have mn2 : Mn.2 = Mm.2 := by
    rcases hMn with ⟨_, e⟩ | ⟨_, e⟩ <;> rw [e]
    rfl
  have m102 : Mn.1 102 0 = nI nn := by rw [mn 102 (by decide)]; exact b2
  -- loops around
  have lI := lIn_eq (M := sI (sI Mc 9 nn x) 10 nn p) (N := sI (sI Mn 6 nn x) 7 nn p) (n := nn) (hp := hp) (l := l) (p := p) (kd := Mc.1 9) (lp := Mc.1 11) (by omega) hP hLp hl (by rw [sI_n (by decide), sI_e, pk_un hne]) (by rw [sI_n (by decide), sI_n (by decide)]) (by rw [sI_n (by decide), sI_e, pk_un hne, mn 6 (by decide), k1]) (by rw [sI_n (by decide), sI_n (by decide), mn 8 (by decide), k3])
  -- the class
  obtain ⟨Mi, i1, i2, i3, i4, i5, i6, i7⟩ := inh_eq (M := sI (sI (sI (sI (sI Mc 9 nn x) 10 nn p) 11 nn (nI l)) 12 nn one) 13 nn two) (n := nn) (l := l) (hp := hp) (p := p) (kd := Mc.1 9) (lp := Mc.1 11) hn hl4 hP hl (by rw [sI_n (by decide), sI_n (by decide), sI_n (by decide), sI_n (by decide), sI_e, pk_un hne]) (by rw [sI_n (by decide), sI_n (by decide), sI_e, pk_us]) (fun z => by rw [sI_n (by decide), sI_n (by decide), sI_e, pk_un hne, sI_n (by decide), sI_n (by decide)]; exact hLp z)
  have im : ∀ c, c ≠ 9 → c ≠ 10 → c ≠ 11 → c ≠ 12 → c ≠ 13 → c ≠ 14 → c ≠ 15 → Mi.1 c = Mc.1 c := fun c a b d e f g i => by rw [i2 c g i, sI_n f, sI_n e, sI_n d, sI_n b, sI_n a]
  have hlast : Mi.1 7 hp = -9 ∨ ∃ k, k < nn ∧ Mi.1 7 hp = nI k := by
    rw [im 7 (by decide) (by decide) (by decide) (by decide) (by decide) (by decide) (by decide)]
    rcases bL.2.2 hp hh with ⟨z, _⟩ | ⟨k, z1, z2, _⟩
    · exact .inl z
    · exact .inr ⟨k, z1, z2⟩
  obtain ⟨Mh, j1, j2, j3, j4, j5⟩ := hang_eq (M := Mi) (n := nn) (hp := hp) hn hh hlast
  have jm : ∀ c, c ≠ 6 → c ≠ 7 → c ≠ 8 → c ≠ 9 → c ≠ 10 → c ≠ 11 → c ≠ 12 → c ≠ 13 → c ≠ 14 → c ≠ 15 → Mh.1 c = Mc.1 c := fun c a b d e f g i j k l => by rw [j2 c a b d, im c e f g i j k l]
  have j2' : Mh.2 = Mc.2 := by rw [j3, i3]; rfl
  obtain ⟨Ma, na', a1, a2, a3, a4, a5, a6, a7, a8⟩ : ∃ (Ma : Mem) (na' : Nat), f_X2_add Mc p x one two = some (nI nn, Ma) ∧ (∀ c, c ≠ 16 → c ≠ 17 → c ≠ 106 → c ≠ 107 → Ma.1 c = Mh.1 c) ∧ Ma.2 = Mc.2 ∧ Ma.1 106 0 = nI (nn + 1) ∧ Ma.1 107 0 = nI na' ∧ (x = 3 ∧ na' = na + 1 ∨ x ≠ 3 ∧ na' = na) ∧ CW (nn + 1) na' (upd (Mc.1 9) nn x) (Ma.1 16) (Ma.1 17) ∧ (∀ a, a < na → Ma.1 16 a = Mc.1 16 a) := by
    have h106 : Mh.1 106 0 = nI nn := by rw [jm 106 (by decide) (by decide) (by decide) (by decide) (by decide) (by decide) (by decide) (by decide) (by decide) (by decide)]; exact b1
    have h107 : Mh.1 107 0 = nI na := by rw [jm 107 (by decide) (by decide) (by decide) (by decide) (by decide) (by decide) (by decide) (by decide) (by decide) (by decide)]; exact b4
    have h16 : Mh.1 16 = Mc.1 16 := jm 16 (by decide) (by decide) (by decide) (by decide) (by decide) (by decide) (by decide) (by decide) (by decide) (by decide)
    have h17 : Mh.1 17 = Mc.1 17 := jm 17 (by decide) (by decide) (by decide) (by decide) (by decide) (by decide) (by decide) (by decide) (by decide) (by decide)
    have e73 : f_X2_add Mc p x one two = f_X2_add_73 x (nI nn) (nI nn) (nI hp) Mi := by
      unfold f_X2_add
      simp only [b1, ck40 hn, nI_clamp (show nn < 2 ^ 31 by omega)]
      rw [lI.1, bq_s, i1, bm_s]
      rcases hP with ⟨z1, z2⟩ | ⟨z1, z2, _⟩
      · rw [if_pos z1, z2]; rfl
      · rw [if_neg (by rw [z1]; exact nN9 (by omega)), z1]
    rw [e73]
    unfold f_X2_add_73 f_X2_add_122
    rw [j1, bm_s, ck40 hn, nI_clamp (by omega)]
    by_cases q : x = 3
    · have hna := ga q
      have e107 : (sI Mh 17 nn (-9)).1 107 0 = nI na := by rw [sI_n (by decide)]; exact h107
      have e107' : (sI (sI Mh 17 nn (-9)) 16 na (nI nn)).1 107 0 = nI na := by rw [sI_n (by decide)]; exact e107
      have e107'' : (sI (sI (sI Mh 17 nn (-9)) 16 na (nI nn)) 17 nn (nI na)).1 107 0 = nI na := by rw [sI_n (by decide)]; exact e107'
      have e106 : (sI (sI (sI (sI Mh 17 nn (-9)) 16 na (nI nn)) 17 nn (nI na)) 107 0 (nI (na + 1))).1 106 0 = nI nn := by rw [sI_n (by decide), sI_n (by decide), sI_n (by decide), sI_n (by decide)]; exact h106
      rw [if_pos q, e107, ck_nI hna (by omega), ck40 hn, nI_clamp (by omega), e107', e107'', nI_1, e106, nI_1]
      refine ⟨_, na + 1, rfl, fun c a b d e => by rw [sI_n d, sI_n e, sI_n b, sI_n a, sI_n b], j2', by rw [sI_e, pk_us], by rw [sI_n (by decide), sI_e, pk_us], .inl ⟨q, rfl⟩, ?_, fun a ha => ?_⟩
      · rw [sI_n (by decide), sI_n (by decide), sI_n (by decide), sI_e, sI_n (by decide), sI_n (by decide), sI_n (by decide), sI_e, sI_n (by decide), sI_e, h16, h17]
        obtain ⟨c1, c2, c3⟩ := bC
        refine ⟨fun a ha => ?_, fun k hk hk3 => ?_, fun a b hab hb => ?_⟩
        · by_cases z : a = na
          · subst z
            exact ⟨nn, by omega, pk_us, by rw [pk_us]; exact q, pk_us⟩
          · obtain ⟨k, z1, z2, z3, z4⟩ := c1 a (by omega)
            exact ⟨k, by omega, by rw [pk_un z]; exact z2, by rw [pk_un (by omega)]; exact z3, by rw [pk_un (by omega), pk_un (by omega)]; exact z4⟩
        · by_cases z : k = nn
          · subst z
            exact ⟨na, by omega, pk_us, pk_us⟩
          · rw [pk_un z] at hk3
            obtain ⟨a, z1, z2, z3⟩ := c2 k (by omega) hk3
            exact ⟨a, by omega, by rw [pk_un z, pk_un z]; exact z2, by rw [pk_un (by omega)]; exact z3⟩
        · by_cases z : b = na
          · subst z
            rw [pk_us, pk_un (by omega)]
            obtain ⟨k, z1, z2, _⟩ := c1 a (by omega)
            rw [z2, cN_n' (by omega), cN_n' (by omega)]; exact z1
          · rw [pk_un z, pk_un (by omega)]; exact c3 a b hab (by omega)
      · rw [sI_n (by decide), sI_n (by decide), sI_n (by decide), sI_e, pk_un (by omega), sI_n (by decide), h16]
    · have e106 : (sI Mh 17 nn (-9)).1 106 0 = nI nn := by rw [sI_n (by decide)]; exact h106
      rw [if_neg q, e106, nI_1]
      refine ⟨_, na, rfl, fun c a b d e => by rw [sI_n d, sI_n b], j2', by rw [sI_e, pk_us], by rw [sI_n (by decide), sI_n (by decide)]; exact h107, .inr ⟨q, rfl⟩, ?_, fun a ha => ?_⟩
      · rw [sI_n (by decide), sI_n (by decide), sI_n (by decide), sI_e, h16, h17]
        obtain ⟨c1, c2, c3⟩ := bC
        refine ⟨fun a ha => ?_, fun k hk hk3 => ?_, c3⟩
        · obtain ⟨k, z1, z2, z3, z4⟩ := c1 a ha
          exact ⟨k, by omega, z2, by rw [pk_un (by omega)]; exact z3, by rw [pk_un (by omega)]; exact z4⟩
        · by_cases z : k = nn
          · subst z; rw [pk_us] at hk3; exact absurd hk3 q
          · rw [pk_un z] at hk3
            obtain ⟨a, z1, z2, z3⟩ := c2 k (by omega) hk3
            exact ⟨a, z1, by rw [pk_un z]; exact z2, z3⟩
      · rw [sI_n (by decide), sI_n (by decide), h16]
  -- the reference
  obtain ⟨N5, n1, n2, n3, n6, n7, n8, n9, n10, n11⟩ : ∃ N5 : Mem, f_X12_makeNode Mn x p one two = bm (f_X12_firstOrders_7 100000 0 N5) (fun M11 => some ((M11.1 102 0) - 1, M11)) ∧ (∀ c, c ≠ 6 → c ≠ 7 → c ≠ 8 → c ≠ 9 → c ≠ 10 → c ≠ 11 → c ≠ 102 → c ≠ 103 → c ≠ 109 → N5.1 c = Mm.1 c) ∧ N5.2 = Mm.2 ∧ N5.1 6 = upd (Mm.1 6) nn x ∧ N5.1 7 = upd (Mm.1 7) nn p ∧ N5.1 8 = upd (Mm.1 8) nn (nI l) ∧ N5.1 9 = upd (Mm.1 9) nn one ∧ N5.1 10 = upd (Mm.1 10) nn two ∧ N5.1 11 = fl_ (Mm.1 11) (3 * nn + 0) (3 * nn + 3) (-9) ∧ N5.1 102 0 = nI (nn + 1) ∧ N5.1 103 0 = Mn.1 103 0 ∧ N5.1 109 0 = nI 0 := by
    have q1 : (sI Mn 6 nn x).1 102 0 = nI nn := by rw [sI_n (by decide)]; exact m102
    have q2 : (sI (sI Mn 6 nn x) 7 nn p).1 102 0 = nI nn := by rw [sI_n (by decide)]; exact q1
    have q3 : (sI (sI (sI Mn 6 nn x) 7 nn p) 8 nn (nI l)).1 102 0 = nI nn := by rw [sI_n (by decide)]; exact q2
    have q4 : (sI (sI (sI (sI Mn 6 nn x) 7 nn p) 8 nn (nI l)) 9 nn one).1 102 0 = nI nn := by rw [sI_n (by decide)]; exact q3
    have q5 : (sI (sI (sI (sI (sI Mn 6 nn x) 7 nn p) 8 nn (nI l)) 9 nn one) 10 nn two).1 102 0 = nI nn := by rw [sI_n (by decide)]; exact q4
    have e := mn58 hn 3 0 100000 _ rfl (by omega) q5
    refine ⟨sI (sI (fI (sI (sI (sI (sI (sI Mn 6 nn x) 7 nn p) 8 nn (nI l)) 9 nn one) 10 nn two) 11 (3 * nn + 0) (3 * nn + 3) (-9)) 102 0 (nI (nn + 1))) 109 0 0, ?_, fun c a b d e f g i j k => by rw [sI_n k, sI_n i, fI_n g, sI_n f, sI_n e, sI_n d, sI_n b, sI_n a, mn c j], mn2, ?_, ?_, ?_, ?_, ?_, ?_, ?_, ?_, ?_⟩
    · unfold f_X12_makeNode
      rw [m102, ck40 hn, nI_clamp (by omega), q1, ck40 hn, nI_clamp (by omega), lI.2, bq_s, q2, ck40 hn, nI_clamp (by omega), q3, ck40 hn, nI_clamp (by omega), q4, ck40 hn, nI_clamp (by omega)]
      exact e
    · rw [sI_n (by decide), sI_n (by decide), fI_n (by decide), sI_n (by decide), sI_n (by decide), sI_n (by decide), sI_n (by decide), sI_e, mn 6 (by decide)]
    · rw [sI_n (by decide), sI_n (by decide), fI_n (by decide), sI_n (by decide), sI_n (by decide), sI_n (by decide), sI_e, sI_n (by decide), mn 7 (by decide)]
    · rw [sI_n (by decide), sI_n (by decide), fI_n (by decide), sI_n (by decide), sI_n (by decide), sI_e, sI_n (by decide), sI_n (by decide), mn 8 (by decide)]
    · rw [sI_n (by decide), sI_n (by decide), fI_n (by decide), sI_n (by decide), sI_e, sI_n (by decide), sI_n (by decide), sI_n (by decide), mn 9 (by decide)]
    · rw [sI_n (by decide), sI_n (by decide), fI_n (by decide), sI_e, sI_n (by decide), sI_n (by decide), sI_n (by decide), sI_n (by decide), mn 10 (by decide)]
    · rw [sI_n (by decide), sI_n (by decide), fI_e, sI_n (by decide), sI_n (by decide), sI_n (by decide), sI_n (by decide), sI_n (by decide), mn 11 (by decide)]
    · rw [sI_n (by decide), sI_e, pk_us]
    · rw [sI_n (by decide), sI_n (by decide), fI_n (by decide), sI_n (by decide), sI_n (by decide), sI_n (by decide), sI_n (by decide), sI_n (by decide)]
    · rw [sI_e, pk_us]; rfl
  obtain ⟨n11, n12, n13, n14⟩ := n11
  have m103 : N5.1 103 0 = nI na' := by
    rw [n13]
    rcases hMn with ⟨z, e⟩ | ⟨z, e⟩
    · rcases a6 with ⟨y, _⟩ | ⟨_, y⟩
      · exact absurd y z
      · rw [e, y]; exact b5
    · rcases a6 with ⟨_, y⟩ | ⟨y, _⟩
      · rw [e, y, sI_e, pk_us]
      · exact absurd z y
  have hna' : na' ≤ 12 := by
    rcases a6 with ⟨y, z⟩ | ⟨_, z⟩
    · have := ga y; omega
    · omega
  -- the new tree
  have C6 : (sI Ma 109 0 0).1 6 = Mh.1 6 := by rw [sI_n (by decide), a2 6 (by decide) (by decide) (by decide) (by decide)]
  have C7 : (sI Ma 109 0 0).1 7 = Mh.1 7 := by rw [sI_n (by decide), a2 7 (by decide) (by decide) (by decide) (by decide)]
  have C8 : (sI Ma 109 0 0).1 8 = Mh.1 8 := by rw [sI_n (by decide), a2 8 (by decide) (by decide) (by decide) (by decide)]
  have C9 : (sI Ma 109 0 0).1 9 = upd (Mc.1 9) nn x := by rw [sI_n (by decide), a2 9 (by decide) (by decide) (by decide) (by decide), j2 9 (by decide) (by decide) (by decide), i2 9 (by decide) (by decide), sI_n (by decide), sI_n (by decide), sI_n (by decide), sI_n (by decide), sI_e]
  have C10 : (sI Ma 109 0 0).1 10 = upd (Mc.1 10) nn p := by rw [sI_n (by decide), a2 10 (by decide) (by decide) (by decide) (by decide), j2 10 (by decide) (by decide) (by decide), i2 10 (by decide) (by decide), sI_n (by decide), sI_n (by decide), sI_n (by decide), sI_e, sI_n (by decide)]
  have C11 : (sI Ma 109 0 0).1 11 = upd (Mc.1 11) nn (nI l) := by rw [sI_n (by decide), a2 11 (by decide) (by decide) (by decide) (by decide), j2 11 (by decide) (by decide) (by decide), i2 11 (by decide) (by decide), sI_n (by decide), sI_n (by decide), sI_e, sI_n (by decide), sI_n (by decide)]
  have C12 : (sI Ma 109 0 0).1 12 = upd (Mc.1 12) nn one := by rw [sI_n (by decide), a2 12 (by decide) (by decide) (by decide) (by decide), j2 12 (by decide) (by decide) (by decide), i2 12 (by decide) (by decide), sI_n (by decide), sI_e, sI_n (by decide), sI_n (by decide), sI_n (by decide)]
  have C13 : (sI Ma 109 0 0).1 13 = upd (Mc.1 13) nn two := by rw [sI_n (by decide), a2 13 (by decide) (by decide) (by decide) (by decide), j2 13 (by decide) (by decide) (by decide), i2 13 (by decide) (by decide), sI_e, sI_n (by decide), sI_n (by decide), sI_n (by decide), sI_n (by decide)]
  have C14 : (sI Ma 109 0 0).1 14 = Mi.1 14 := by rw [sI_n (by decide), a2 14 (by decide) (by decide) (by decide) (by decide), j2 14 (by decide) (by decide) (by decide)]
  have C15 : (sI Ma 109 0 0).1 15 = Mi.1 15 := by rw [sI_n (by decide), a2 15 (by decide) (by decide) (by decide) (by decide), j2 15 (by decide) (by decide) (by decide)]
  have C16 : (sI Ma 109 0 0).1 16 = Ma.1 16 := sI_n (by decide)
  have C17 : (sI Ma 109 0 0).1 17 = Ma.1 17 := sI_n (by decide)
  have ar0 : ∀ z, ¬ (nn * 4 ≤ z ∧ z < nn * 4 + 4) → Mi.1 14 z = Mc.1 14 z := fun z hz => by rw [i4 z hz, sI_n (by decide), sI_n (by decide), sI_n (by decide), sI_n (by decide), sI_n (by decide)]
  have pl0 : ∀ z, ¬ (nn * 5 ≤ z ∧ z < nn * 5 + 5) → Mi.1 15 z = Mc.1 15 z := fun z hz => by rw [i5 z hz, sI_n (by decide), sI_n (by decide), sI_n (by decide), sI_n (by decide), sI_n (by decide)]
  have hpn : p ≠ -9 → hp < nn ∧ cN_ p = hp := fun z => by
    rcases hP with ⟨y, _⟩ | ⟨y1, y2, _⟩
    · exact absurd y z
    · exact ⟨y2, by rw [y1]; exact cN_n' (by omega)⟩
  have ecl : cN_ (nI l) = l := cN_n' (by omega)
  have hpar : ∀ k, k < nn → Mc.1 10 k ≠ -9 → cN_ (Mc.1 10 k) < k := fun k hk z => by
    rcases (bT k hk).2.1 with y | ⟨_, y, _⟩
    · exact absurd y z
    · exact y
  have R2n : R2' ns (nn + 1) na' (sI Ma 109 0 0) N5 := by
    unfold R2'
    rw [C6, C7, C8, C9, C10, C11, C12, C13, C14, C15, C16, C17, sI_n (show (106 : Nat) ≠ 109 by decide), sI_n (show (107 : Nat) ≠ 109 by decide), a4, a5, n12, m103, n6, n7, n8, n9, n10]
    refine ⟨rfl, rfl, by omega, rfl, rfl, hna', ⟨by rw [k1], by rw [k2], by rw [k3], by rw [k4], by rw [k5]⟩, TW_ext hn hl4 bT hP hl hx hlx g1 g2 g3, ?_, ?_, ?_, a7⟩
    · have e7' : Mi.1 7 = Mc.1 7 := im 7 (by decide) (by decide) (by decide) (by decide) (by decide) (by decide) (by decide)
      have e6' : Mi.1 6 = Mc.1 6 := im 6 (by decide) (by decide) (by decide) (by decide) (by decide) (by decide) (by decide)
      have e8' : Mi.1 8 = Mc.1 8 := im 8 (by decide) (by decide) (by decide) (by decide) (by decide) (by decide) (by decide)
      rw [e7', e6', e8'] at j5
      rw [e7'] at j4
      exact LW_ext hn hP (fun k hk => by
        rcases (bT k hk).2.1 with y | ⟨y1, y2, _⟩
        · exact .inl y
        · exact .inr ⟨y1, y2⟩) bL j4 j5
    · intro k hk d hd
      by_cases z : k = nn
      · subst z
        rw [pk_us, ecl] at hd
        rw [pk_us, pk_us, ecl]
        have p9 : p ≠ -9 := by
          intro y
          rcases hl with ⟨_, e⟩ | ⟨e, _⟩ | ⟨e, _⟩
          · omega
          · exact e y
          · exact e y
        obtain ⟨y1, y2⟩ := hpn p9
        rw [y2]
        unfold Lq
        rw [pk_un (show hp ≠ k by omega)]
        obtain ⟨w1, w2⟩ := i6 d hd
        refine ⟨fun y => w1 y, fun y => ?_⟩
        rw [w2 y, ar0 _ (by omega)]
        rw [sI_n (by decide), sI_n (by decide), sI_n (by decide), sI_n (by decide), sI_n (by decide)]
      · have hk' : k < nn := by omega
        rw [pk_un z] at hd
        rw [pk_un z, pk_un z]
        have p9 : Mc.1 10 k ≠ -9 := fun y => by have := (bT k hk').2.2.2.1 y; omega
        have lt := hpar k hk' p9
        have l4 := (bT k hk').2.2.1.2.1
        unfold Lq
        rw [pk_un (show cN_ (Mc.1 10 k) ≠ nn by omega), ar0 _ (by omega), ar0 _ (by omega)]
        exact bA k hk' d hd
    · intro k hk d hd
      by_cases z : k = nn
      · subst z
        rw [pk_us, ecl] at hd
        rw [pk_us]
        obtain ⟨w1, w2⟩ := i7 d hd
        by_cases y : p = -9
        · exact ⟨fun v => absurd y v.1, fun _ => w2 (fun v => v.1 y)⟩
        · obtain ⟨y1, y2⟩ := hpn y
          rw [y2, pk_un (show hp ≠ k by omega)]
          refine ⟨fun v => ?_, w2⟩
          rw [w1 v, pl0 _ (by have := (hLp y1).2; omega)]
          rw [sI_n (by decide), sI_n (by decide), sI_n (by decide), sI_n (by decide), sI_n (by decide)]
      · have hk' : k < nn := by omega
        have l4 := (bT k hk').2.2.1.2.1
        rw [pk_un z] at hd
        rw [pk_un z]
        obtain ⟨w1, w2⟩ := bP k hk' d hd
        rw [pl0 (k * 5 + d) (by omega)]
        by_cases y : Mc.1 10 k = -9
        · exact ⟨fun v => absurd y v.1, fun _ => w2 (fun v => v.1 y)⟩
        · have lt := hpar k hk' y
          rw [pk_un (show cN_ (Mc.1 10 k) ≠ nn by omega)]
          refine ⟨fun v => ?_, w2⟩
          have l5 := (bT (cN_ (Mc.1 10 k)) (by omega)).2.2.1.2.1
          rw [pl0 _ (by omega)]; exact w1 v
  obtain ⟨Mb, Nb, s1, s2, s3, s4, s5, s6⟩ := begin_ls R2n
  have s1' : f_X3_begin Ma = some Mb := s1
  have s2' : f_X12_firstOrders_7 100000 0 N5 = some Nb := s2
  have nb102 : Nb.1 102 0 = nI (nn + 1) := by rw [s4 102 (by decide) (by decide)]; exact n12
  have cb : ∀ c, c ≠ 6 → c ≠ 7 → c ≠ 8 → c ≠ 9 → c ≠ 10 → c ≠ 11 → c ≠ 12 → c ≠ 13 → c ≠ 14 → c ≠ 15 → c ≠ 16 → c ≠ 17 → c ≠ 28 → c ≠ 29 → c ≠ 106 → c ≠ 107 → c ≠ 109 → Mb.1 c = Mc.1 c := fun c x1 x2 x3 x4 x5 x6 x7 x8 x9 x10 x11 x12 x13 x14 x15 x16 x17 => by
    rw [s3.1 c x13 x14, sI_n x17, a2 c x11 x12 x15 x16, jm c x1 x2 x3 x4 x5 x6 x7 x8 x9 x10]
  have mb : ∀ c, c ≠ 6 → c ≠ 7 → c ≠ 8 → c ≠ 9 → c ≠ 10 → c ≠ 11 → c ≠ 30 → c ≠ 31 → c ≠ 102 → c ≠ 103 → c ≠ 109 → Nb.1 c = Mm.1 c := fun c x1 x2 x3 x4 x5 x6 x7 x8 x9 x10 x11 => by
    rw [s4 c x7 x8, n2 c x1 x2 x3 x4 x5 x6 x9 x10 x11]
  have cb2 : Mb.2 = Mc.2 := by rw [s3.2]; exact a3
  have mb2 : Nb.2 = Mm.2 := by rw [s5, n3]
  refine ⟨sI (sI (sI (sI (sI (sI (sI Mb 113 0 (bI false)) 115 0 (bI false)) 116 0 (bI false)) 121 0 (bI false)) 117 0 (bI false)) 121 0 (bI false)) 123 0 (bI false), Nb, ?_, ?_, ns, nn + 1, na', nr, 0, ?_, ?_, ?_, ?_, ?_, ?_, ?_, R8_off⟩
  · unfold f_X11_grow
    rw [b1, if_pos (show nI nn < 40 from nI_lt (b := 40) hn (by omega)), a1, bd_s, s1', bm_s]
    rfl
  · rw [n1, s2', bm_s, nb102, nI_pred]
  · show R1 ns (Mb.1 105 0) (Nb.1 101 0) (Mb.1 2) (Mb.1 3) (Mb.1 4) (Nb.1 2) (Nb.1 3) (Nb.1 4)
    rw [cb 105 (by decide) (by decide) (by decide) (by decide) (by decide) (by decide) (by decide) (by decide) (by decide) (by decide) (by decide) (by decide) (by decide) (by decide) (by decide) (by decide) (by decide), cb 2 (by decide) (by decide) (by decide) (by decide) (by decide) (by decide) (by decide) (by decide) (by decide) (by decide) (by decide) (by decide) (by decide) (by decide) (by decide) (by decide) (by decide), cb 3 (by decide) (by decide) (by decide) (by decide) (by decide) (by decide) (by decide) (by decide) (by decide) (by decide) (by decide) (by decide) (by decide) (by decide) (by decide) (by decide) (by decide), cb 4 (by decide) (by decide) (by decide) (by decide) (by decide) (by decide) (by decide) (by decide) (by decide) (by decide) (by decide) (by decide) (by decide) (by decide) (by decide) (by decide) (by decide),
      mb 101 (by decide) (by decide) (by decide) (by decide) (by decide) (by decide) (by decide) (by decide) (by decide) (by decide) (by decide), mb 2 (by decide) (by decide) (by decide) (by decide) (by decide) (by decide) (by decide) (by decide) (by decide) (by decide) (by decide), mb 3 (by decide) (by decide) (by decide) (by decide) (by decide) (by decide) (by decide) (by decide) (by decide) (by decide) (by decide), mb 4 (by decide) (by decide) (by decide) (by decide) (by decide) (by decide) (by decide) (by decide) (by decide) (by decide) (by decide)]
    exact h1
  · show R2' ns (nn + 1) na' Mb Nb
    unfold R2' at R2n ⊢
    rw [s3.1 106 (by decide) (by decide), s3.1 107 (by decide) (by decide), s3.1 6 (by decide) (by decide), s3.1 7 (by decide) (by decide), s3.1 8 (by decide) (by decide), s3.1 9 (by decide) (by decide), s3.1 10 (by decide) (by decide), s3.1 11 (by decide) (by decide), s3.1 12 (by decide) (by decide), s3.1 13 (by decide) (by decide), s3.1 14 (by decide) (by decide), s3.1 15 (by decide) (by decide), s3.1 16 (by decide) (by decide), s3.1 17 (by decide) (by decide), s4 102 (by decide) (by decide), s4 103 (by decide) (by decide), s4 6 (by decide) (by decide), s4 7 (by decide) (by decide), s4 8 (by decide) (by decide), s4 9 (by decide) (by decide), s4 10 (by decide) (by decide)]
    exact R2n
  · show R3 ns na' nr (Mb.1 16) (Mb.1 18) (Mb.1 19) (Mb.1 20) (Nb.1 11) (Nb.1 12) (Nb.1 13)
    rw [s3.1 16 (by decide) (by decide), C16, cb 18 (by decide) (by decide) (by decide) (by decide) (by decide) (by decide) (by decide) (by decide) (by decide) (by decide) (by decide) (by decide) (by decide) (by decide) (by decide) (by decide) (by decide), cb 19 (by decide) (by decide) (by decide) (by decide) (by decide) (by decide) (by decide) (by decide) (by decide) (by decide) (by decide) (by decide) (by decide) (by decide) (by decide) (by decide) (by decide), cb 20 (by decide) (by decide) (by decide) (by decide) (by decide) (by decide) (by decide) (by decide) (by decide) (by decide) (by decide) (by decide) (by decide) (by decide) (by decide) (by decide) (by decide), s4 11 (by decide) (by decide), n11, mb 12 (by decide) (by decide) (by decide) (by decide) (by decide) (by decide) (by decide) (by decide) (by decide) (by decide) (by decide), mb 13 (by decide) (by decide) (by decide) (by decide) (by decide) (by decide) (by decide) (by decide) (by decide) (by decide) (by decide)]
    refine ⟨fun a ha w hw => ?_, fun j hj hj2 => h3.2 j (by rcases a6 with ⟨_, y⟩ | ⟨_, y⟩ <;> omega) hj2⟩
    by_cases z : a < na
    · obtain ⟨k, z1, z2, _⟩ := bC.1 a z
      have := h3.1 a z w hw
      rw [a8 a z, fl_out (by rw [z2, cN_n' (by omega)]; omega)]
      exact this
    · have : a = na ∧ na' = na + 1 ∧ x = 3 := by
        rcases a6 with ⟨y1, y2⟩ | ⟨_, y2⟩
        · exact ⟨by omega, y2, y1⟩
        · omega
      obtain ⟨k, z1, z2, z3, z4⟩ := a7.1 a ha
      have ek : k = nn := by
        rcases Nat.lt_or_ge k nn with u | u
        · rw [pk_un (by omega)] at z3
          obtain ⟨a0, u1, u2, u3⟩ := bC.2.1 k u z3
          have hc := a7.2.2 a0 a (by omega) ha
          rw [a8 a0 u1, u3, z2] at hc
          omega
        · omega
      have c18 := h3.2 (a * 3 + w) (by omega) (by omega)
      rw [z2, cN_n' (by omega), ek, fl_in ⟨by omega, by omega⟩, c18]
      exact ⟨rfl, .inl rfl⟩
  · show R4 (nn + 1) (Mb.1 22) (Mb.1 23) (Mb.1 24) (Nb.1 14) (Nb.1 15) (Nb.1 16) (Nb.1 17)
    rw [cb 22 (by decide) (by decide) (by decide) (by decide) (by decide) (by decide) (by decide) (by decide) (by decide) (by decide) (by decide) (by decide) (by decide) (by decide) (by decide) (by decide) (by decide), cb 23 (by decide) (by decide) (by decide) (by decide) (by decide) (by decide) (by decide) (by decide) (by decide) (by decide) (by decide) (by decide) (by decide) (by decide) (by decide) (by decide) (by decide), cb 24 (by decide) (by decide) (by decide) (by decide) (by decide) (by decide) (by decide) (by decide) (by decide) (by decide) (by decide) (by decide) (by decide) (by decide) (by decide) (by decide) (by decide), mb 14 (by decide) (by decide) (by decide) (by decide) (by decide) (by decide) (by decide) (by decide) (by decide) (by decide) (by decide), mb 15 (by decide) (by decide) (by decide) (by decide) (by decide) (by decide) (by decide) (by decide) (by decide) (by decide) (by decide), mb 16 (by decide) (by decide) (by decide) (by decide) (by decide) (by decide) (by decide) (by decide) (by decide) (by decide) (by decide), mb 17 (by decide) (by decide) (by decide) (by decide) (by decide) (by decide) (by decide) (by decide) (by decide) (by decide) (by decide)]
    obtain ⟨w1, w2, w3, w4⟩ := h4
    refine ⟨w1, fun k hk => w2 k (by omega), w3, fun k hk => ?_⟩
    by_cases z : k = nn
    · exact .inl (w2 k (by omega))
    · rcases w4 k (by omega) with y | ⟨y1, y2, j, y3, y4⟩ | y
      · exact .inl y
      · exact .inr (.inl ⟨y1, y2, j, by omega, y4⟩)
      · exact .inr (.inr y)
  · show R5 nr (Mb.1 100 0) (Nb.1 104 0) (Mb.2.2.1 25) Mb.2.2.2.1 Mb.2.2.2.2.1 Mb.2.2.2.2.2 (Nb.1 19) (Nb.1 20) (Nb.1 21) (Nb.2.1 22)
    rw [cb2, mb2, cb 100 (by decide) (by decide) (by decide) (by decide) (by decide) (by decide) (by decide) (by decide) (by decide) (by decide) (by decide) (by decide) (by decide) (by decide) (by decide) (by decide) (by decide), mb 104 (by decide) (by decide) (by decide) (by decide) (by decide) (by decide) (by decide) (by decide) (by decide) (by decide) (by decide), mb 19 (by decide) (by decide) (by decide) (by decide) (by decide) (by decide) (by decide) (by decide) (by decide) (by decide) (by decide), mb 20 (by decide) (by decide) (by decide) (by decide) (by decide) (by decide) (by decide) (by decide) (by decide) (by decide) (by decide), mb 21 (by decide) (by decide) (by decide) (by decide) (by decide) (by decide) (by decide) (by decide) (by decide) (by decide) (by decide)]
    exact h5
  · show R6 (Mb.2.1 101 0) (Nb.2.1 105 0) (Mb.1 102 0) (Nb.1 100 0) (Mb.1 103 0) (Mb.1 104 0) (Mb.1 67) (Nb.1 1) (Nb.1 40) (Mb.2.1 68)
    rw [cb2, mb2, cb 102 (by decide) (by decide) (by decide) (by decide) (by decide) (by decide) (by decide) (by decide) (by decide) (by decide) (by decide) (by decide) (by decide) (by decide) (by decide) (by decide) (by decide), cb 103 (by decide) (by decide) (by decide) (by decide) (by decide) (by decide) (by decide) (by decide) (by decide) (by decide) (by decide) (by decide) (by decide) (by decide) (by decide) (by decide) (by decide), cb 104 (by decide) (by decide) (by decide) (by decide) (by decide) (by decide) (by decide) (by decide) (by decide) (by decide) (by decide) (by decide) (by decide) (by decide) (by decide) (by decide) (by decide), cb 67 (by decide) (by decide) (by decide) (by decide) (by decide) (by decide) (by decide) (by decide) (by decide) (by decide) (by decide) (by decide) (by decide) (by decide) (by decide) (by decide) (by decide), mb 100 (by decide) (by decide) (by decide) (by decide) (by decide) (by decide) (by decide) (by decide) (by decide) (by decide) (by decide), mb 1 (by decide) (by decide) (by decide) (by decide) (by decide) (by decide) (by decide) (by decide) (by decide) (by decide) (by decide), mb 40 (by decide) (by decide) (by decide) (by decide) (by decide) (by decide) (by decide) (by decide) (by decide) (by decide) (by decide)]
    exact h6
  · show R7 na' 0 (Mb.1 16) (Mb.1 11) (Mb.1 28) (Mb.1 29) (Nb.1 30) (Nb.1 31) (Mb.1 108 0) (Mb.1 109 0) (Nb.1 109 0) (Mb.2.2.1 33) (Mb.2.2.2.2.2 1) Mb.2.2.2.1 (Nb.1 32) (Nb.1 33)
    obtain ⟨r1, r2, r3, r4, o, r5, r6, K1, K2, K3⟩ := h7
    rw [cb2, s3.1 16 (by decide) (by decide), s3.1 11 (by decide) (by decide), cb 108 (by decide) (by decide) (by decide) (by decide) (by decide) (by decide) (by decide) (by decide) (by decide) (by decide) (by decide) (by decide) (by decide) (by decide) (by decide) (by decide) (by decide)]
    refine ⟨s6, ?_, ?_, by omega, o, r5, r6, fun t ht => absurd ht (Nat.not_lt_zero t), K2, K3⟩
    · rw [s3.1 109 (by decide) (by decide), sI_e, pk_us]; rfl
    · rw [s4 109 (by decide) (by decide)]; exact n14
