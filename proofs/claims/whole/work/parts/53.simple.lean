/-! the pure half: small calls -/
theorem upd_same (f : Nat → Int32) (k : Nat) (x : Int32) (h : f k = x) : upd f k x = f := by
  funext j
  by_cases q : j = k
  · subst q; rw [pk_us, h]
  · rw [pk_un q]
section
variable {ns nn na nr nk : Nat} {Mc Mm : Mem}
theorem meet_r (h : RelN ns nn na nr nk Mc Mm) {j : Nat} (hj : j < 6) :
    f_X11_meet Mc (nI j) = some (-3, sI (sI Mc 102 0 (nI j)) 67 j (Mc.1 67 j + 1)) ∧ f_X12_meets Mm (nI j) = some (-3, sI (sI Mm 100 0 (nI j)) 1 j (Mm.1 1 j + 1)) ∧
    RelN ns nn na nr nk (sI (sI Mc 102 0 (nI j)) 67 j (Mc.1 67 j + 1)) (sI (sI Mm 100 0 (nI j)) 1 j (Mm.1 1 j + 1)) := by
  obtain ⟨h1, h2, h3, h4, h5, ⟨a1, a2, a3, a4, a5, a6, a7⟩, h7, h8⟩ := h
  refine ⟨?_, ?_, h1, h2, h3, h4, h5, ⟨a1, rfl, ?_, a4, a5, a6, a7⟩, h7, h8⟩
  · unfold f_X11_meet
    rw [ck_nI hj (by decide), ck_nI hj (by decide), nI_clamp (by omega), sI_n (by decide)]
  · unfold f_X12_meets
    rw [ck_nI hj (by decide), ck_nI hj (by decide), nI_clamp (by omega), sI_n (by decide)]
  · show upd (Mc.1 67) j (Mc.1 67 j + 1) = upd (Mm.1 1) j (Mm.1 1 j + 1)
    rw [a3]
theorem meet_go (h : RelN ns nn na nr nk Mc Mm) (j : Nat) (hj : j < 6) {x : Int32} (hx : x = nI j) :
    ∃ (r : Int32) (Mc1 Mm1 : Mem), bd (f_X11_meet Mc x) (fun r M => some (r, M)) = some (r, Mc1) ∧ bd (f_X12_meets Mm x) (fun r M => some (r, M)) = some (r, Mm1) ∧ Rel Mc1 Mm1 := by
  subst hx
  obtain ⟨e1, e2, h'⟩ := meet_r h hj
  rw [e1, e2]
  exact ⟨_, _, _, rfl, rfl, ns, nn, na, nr, nk, h'⟩
theorem same_go (h : RelN ns nn na nr nk Mc Mm) (r : Int32) : ∃ (r' : Int32) (Mc1 Mm1 : Mem), some (r, Mc) = some (r', Mc1) ∧ some (r, Mm) = some (r', Mm1) ∧ Rel Mc1 Mm1 := ⟨_, _, _, rfl, rfl, ns, nn, na, nr, nk, h⟩
theorem R8_off {na : Nat} {an lp ar : Nat → Int32} {P : Pg} {aA aR aP rm cm : Nat → Int32} {c110 c112 c114 c118 c119 c120 c122 : Int32} {c35 : Nat → Int32} {c36 c39 c40 : Nat → Int64} {c41 c44 c45 c46 c47 : Nat → Int32} {c49 c50 : Nat → Int64} {c57 c59 c62 : Nat → Int32} :
    R8 na an lp ar P aA aR aP rm cm c110 c112 (bI false) c114 (bI false) (bI false) (bI false) c118 c119 c120 (bI false) c122 (bI false) c35 c36 c39 c40 c41 c44 c45 c46 c47 c49 c50 c57 c59 c62 := by
  have n : ¬ zb (bI false) = true := by decide
  exact ⟨fun q => absurd q n, fun q => absurd q n, fun q => absurd q n, fun q => absurd q n, fun q => absurd q n, fun q => absurd q n⟩
/-- the aims have changed -/
theorem R8_aim {na : Nat} {an lp ar : Nat → Int32} {P : Pg} {aA aR aP rm cm aA' aR' aP' : Nat → Int32} {c110 c112 c113 c114 c115 c116 c117 c118 c119 c120 c121 c122 c123 : Int32} {c35 : Nat → Int32} {c36 c39 c40 : Nat → Int64} {c41 c44 c45 c46 c47 : Nat → Int32} {c49 c50 : Nat → Int64} {c57 c59 c62 : Nat → Int32}
    (h : R8 na an lp ar P aA aR aP rm cm c110 c112 c113 c114 c115 c116 c117 c118 c119 c120 c121 c122 c123 c35 c36 c39 c40 c41 c44 c45 c46 c47 c49 c50 c57 c59 c62) :
    R8 na an lp ar P aA' aR' aP' rm cm c110 c112 c113 c114 (bI false) (bI false) c117 c118 c119 c120 (bI false) c122 c123 c35 c36 c39 c40 c41 c44 c45 c46 c47 c49 c50 c57 c59 c62 := by
  have n : ¬ zb (bI false) = true := by decide
  exact ⟨h.1, fun q => absurd q n, fun q => absurd q n, h.2.2.2.1, fun q => absurd q n, h.2.2.2.2.2⟩
/-- the orders have changed -/
theorem R8_ord {na : Nat} {an lp ar : Nat → Int32} {P : Pg} {aA aR aP rm cm rm' cm' : Nat → Int32} {c110 c112 c113 c114 c115 c116 c117 c118 c119 c120 c121 c122 c123 c118' c119' c120' c122' : Int32} {c35 : Nat → Int32} {c36 c39 c40 : Nat → Int64} {c41 c44 c45 c46 c47 : Nat → Int32} {c49 c50 : Nat → Int64} {c57 c59 c62 c57' c59' c62' : Nat → Int32}
    (h : R8 na an lp ar P aA aR aP rm cm c110 c112 c113 c114 c115 c116 c117 c118 c119 c120 c121 c122 c123 c35 c36 c39 c40 c41 c44 c45 c46 c47 c49 c50 c57 c59 c62) :
    R8 na an lp ar P aA aR aP rm' cm' c110 c112 c113 c114 c115 c116 (bI false) c118' c119' c120' (bI false) c122' (bI false) c35 c36 c39 c40 c41 c44 c45 c46 c47 c49 c50 c57' c59' c62' := by
  have n : ¬ zb (bI false) = true := by decide
  exact ⟨h.1, h.2.1, h.2.2.1, fun q => absurd q n, fun q => absurd q n, fun q => absurd q n⟩
end
theorem sim_asked : Sim_asked Rel := by
  intro Mc Mm ⟨ns, nn, na, nr, nk, h⟩
  refine ⟨_, _, _, ⟨rfl, rfl⟩, ⟨?_, rfl⟩, ns, nn, na, nr, nk, h⟩
  unfold f_X12_asked; rw [← h.2.2.2.2.2.1.1]
theorem sim_finding : Sim_finding Rel := by
  intro Mc Mm ⟨ns, nn, na, nr, nk, h⟩
  refine ⟨_, _, _, ⟨rfl, rfl⟩, ⟨?_, rfl⟩, ns, nn, na, nr, nk, h⟩
  unfold f_X12_finding; rw [← h.2.2.2.2.2.1.2.1]
theorem sim_findings : Sim_findings Rel := by
  intro Mc Mm y0 ⟨ns, nn, na, nr, nk, h⟩
  unfold f_X11_findings f_X12_findings
  rw [in_w 1 5, h.2.2.2.2.2.1.2.2.1]
  rcases wi_c y0 1 5 with e | e
  · rw [e]
    have e2 := e
    rw [wi_d] at e2
    have e3 := of_decide_eq_true (Option.some.inj e2)
    obtain ⟨j, hj, rfl⟩ := nI_of2 (x := y0) (M := 5) (n := 5) (by decide) (fun q => absurd (Int32.le_trans e3.1 (Int32.le_of_lt q)) (by decide)) e3.2
    simp only [bq_s, bT, ck_nI (show j < 6 by omega) (by decide : (6 : Nat) < 2 ^ 31)]
    exact ⟨_, _, _, ⟨rfl, rfl⟩, ⟨rfl, rfl⟩, ns, nn, na, nr, nk, h⟩
  · rw [e]
    exact ⟨_, _, _, ⟨rfl, rfl⟩, ⟨rfl, rfl⟩, ns, nn, na, nr, nk, h⟩
theorem sim_count : Sim_count Rel := by
  intro Mc Mm y0 ⟨ns, nn, na, nr, nk, h⟩
  unfold f_X11_count f_X12_count
  have h1 := h.1
  have h2 := h.2.1
  have h5 := h.2.2.2.2.1
  have h7 := h.2.2.2.2.2.2.1
  rw [h1.1, h1.2.1, h2.1, h2.2.1, h2.2.2.2.1, h2.2.2.2.2.1, h5.1, h5.2.1, h7.2.1, h7.2.2.1]
  have hg : ∀ x : Option Int32, (∃ r, x = some r) → ∃ r Mc1 Mm1, (x = some r ∧ Mc1 = Mc) ∧ (x = some r ∧ Mm1 = Mm) ∧ Rel Mc1 Mm1 := fun x ⟨r, hr⟩ => ⟨r, Mc, Mm, ⟨hr, rfl⟩, ⟨hr, rfl⟩, ns, nn, na, nr, nk, h⟩
  refine hg _ ?_
  by_cases q0 : y0 = 0
  · rw [if_pos q0]; exact ⟨_, rfl⟩
  · rw [if_neg q0]
    by_cases q1 : y0 = 1
    · rw [if_pos q1]; exact ⟨_, rfl⟩
    · rw [if_neg q1]
      by_cases q2 : y0 = 2
      · rw [if_pos q2]; exact ⟨_, rfl⟩
      · rw [if_neg q2]
        by_cases q3 : y0 = 3
        · rw [if_pos q3]; exact ⟨_, rfl⟩
        · rw [if_neg q3]
          by_cases q4 : y0 = 4
          · rw [if_pos q4]; exact ⟨_, rfl⟩
          · rw [if_neg q4]; exact ⟨_, rfl⟩
theorem sim_term : Sim_term Rel := by
  intro Mc Mm y0 y1 ⟨ns, nn, na, nr, nk, h⟩
  unfold f_X11_term f_X12_term
  rw [in_w 0 7, in_w (-1000) 1000, wi_n y0 (b := 7) (m := 7) (n := 8) rfl rfl (by decide)]
  cases e : inN y0 8 with
  | false => exact same_go h _
  | true =>
    obtain ⟨j, hj, rfl⟩ := inN_t e
    rw [bq_s, bq_s, bT, bT]
    rcases wi_c y1 (-1000) 1000 with g | g
    · rw [g, bq_s, bq_s, bT, bT, ck_nI hj (by decide), ck_nI hj (by decide), nI_clamp (by omega)]
      obtain ⟨⟨a1, a2, a3, a4, a5, a6, a7⟩, h2, h3, h4, h5, h6, h7, h8⟩ := h
      refine ⟨_, _, _, rfl, rfl, ns, nn, na, nr, nk, ⟨a1, a2, a3, a4, a5, ?_, a7⟩, h2, h3, h4, h5, h6, h7, h8⟩
      show upd (Mc.1 3) j y1 = upd (Mm.1 3) j y1
      rw [a6]
    · rw [g]; exact same_go h _
theorem sim_size : Sim_size Rel := by
  intro Mc Mm y0 y1 ⟨ns, nn, na, nr, nk, h⟩
  unfold f_X11_size f_X12_size
  rw [in_w 0 2, in_w (-400) 400, wi_n y0 (b := 2) (m := 2) (n := 3) rfl rfl (by decide)]
  cases e : inN y0 3 with
  | false => exact same_go h _
  | true =>
    obtain ⟨j, hj, rfl⟩ := inN_t e
    rw [bq_s, bq_s, bT, bT]
    rcases wi_c y1 (-400) 400 with g | g
    · rw [g, bq_s, bq_s, bT, bT, ck_nI hj (by decide), ck_nI hj (by decide), ck_nI hj (by decide), ck_nI hj (by decide), nI_clamp (by omega)]
      obtain ⟨⟨a1, a2, a3, a4, a5, a6, a7⟩, h2, h3, h4, h5, h6, h7, h8⟩ := h
      rw [a5]
      have eu : upd (Mc.1 2) j y1 = upd (Mm.1 2) j y1 := by rw [a5]
      by_cases q : Mm.1 2 j = y1
      · rw [if_pos q]
        refine ⟨_, _, _, rfl, rfl, ns, nn, na, nr, nk, ⟨a1, a2, a3, a4, eu, a6, a7⟩, h2, h3, h4, h5, h6, h7, ?_⟩
        have ep : pgM nn (sI Mm 2 j y1) = pgM nn Mm := by
          show (nn, upd (Mm.1 2) j y1, _) = (nn, Mm.1 2, _)
          rw [upd_same _ _ _ q]
          rfl
        rw [ep]; exact h8
      · rw [if_neg q]
        exact ⟨_, _, _, rfl, rfl, ns, nn, na, nr, nk, ⟨a1, a2, a3, a4, eu, a6, a7⟩, h2, h3, h4, h5, h6, h7, R8_off⟩
    · rw [g]; exact same_go h _
