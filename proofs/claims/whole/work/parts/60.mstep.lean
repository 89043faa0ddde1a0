/-! the pure half: single turns of the reference's walk -/
section
variable {M : Mem} {n D k : Nat} {p : Int32}
theorem f58_act (h102 : M.1 102 0 = nI n) (hn : n ≤ 40) (hD : D < 41) (h108 : M.1 108 0 = bI false) (h26 : M.1 26 D = nI k) (hk : k < n) (h25 : M.1 25 D = p) (h6 : M.1 6 k = 3) (N : Nat) :
    f_X12_walk_58 (N + 1) (nI D) M = bm (f_X12_see (sI M 26 D (nI (nx (M.1 7) p (n - (k + 1)) (k + 1)))) (nI k)) (fun M71 => f_X12_walk_58 N (nI D) M71) := by
  rw [f_X12_walk_58, if_neg (nI_pos (by omega)), h108, zb_b, bF, ck_nI hD (by omega), nI_clamp (by omega), h26, h102, if_neg (nI_ge hk (by omega)), ck_nI hD (by omega), h25, nI_1, nxI_eq h102 hn (by omega), bq_s, ck_nI hD (by omega), ck_nI (by omega) (by omega), nI_clamp (by omega), sI_n (by decide), if_pos h6]
theorem f58_test {s m : Nat} (h102 : M.1 102 0 = nI n) (hn : n ≤ 40) (hD : D < 41) (h108 : M.1 108 0 = bI false) (h26 : M.1 26 D = nI k) (hk : k < n) (h25 : M.1 25 D = p) (h6 : M.1 6 k = 2) (h9 : M.1 9 k = nI s) (hs : s < 80) (h10 : M.1 10 k = nI m) (hm : m ≤ 1000) (N : Nat) :
    f_X12_walk_58 (N + 1) (nI D) M = if pasW (val (M.1 2) (M.1 4) (M.2.1 5) s) (nI m) = true then f_X12_walk_174 (f_X12_walk_58 N) (nI D) (nI k) (sI M 26 D (nI (nx (M.1 7) p (n - (k + 1)) (k + 1)))) else f_X12_walk_58 N (nI D) (sI M 26 D (nI (nx (M.1 7) p (n - (k + 1)) (k + 1)))) := by
  rw [f_X12_walk_58, if_neg (nI_pos (by omega)), h108, zb_b, bF, ck_nI hD (by omega), nI_clamp (by omega), h26, h102, if_neg (nI_ge hk (by omega)), ck_nI hD (by omega), h25, nI_1, nxI_eq h102 hn (by omega), bq_s, ck_nI hD (by omega), ck_nI (by omega) (by omega), nI_clamp (by omega), sI_n (by decide), h6, if_neg (by decide), ck_nI (by omega) (by omega), if_pos rfl, ck_nI (by omega) (by omega), sI_n (by decide), h9, vo_eq hs, bq_s, ck_nI (by omega) (by omega), sI_n (by decide), sI_n (by decide), sI_n (by decide), sI_2, h10]
  unfold pasW
  by_cases q : m = 0
  · subst q
    rw [if_pos nI_0, if_neg (show ¬ (0 : Int32) < nI 0 by decide)]
    by_cases z : val (M.1 2) (M.1 4) (M.2.1 5) s < 0
    · rw [if_pos z, decide_eq_false (fun y => y z), bF]
    · rw [if_neg z, decide_eq_true z, bT]
  · have hp : 0 < nI m := nI_lt (a := 0) (b := m) (by omega) (by omega)
    rw [if_neg (nI_ne0 (by omega) (by omega)), if_pos hp, ck_nI (by omega) (by omega), nzL_ok (pos64 hp)]
    by_cases z : val (M.1 2) (M.1 4) (M.2.1 5) s - val (M.1 2) (M.1 4) (M.2.1 5) s / (nI m).toInt64 * (nI m).toInt64 = 0
    · rw [if_pos z, decide_eq_true z, bT]
    · rw [if_neg z, decide_eq_false z, bF]
theorem f58_loop {s t d T : Nat} {fr to : Int64} (h102 : M.1 102 0 = nI n) (hn : n ≤ 40) (hD : D + 1 < 41) (h108 : M.1 108 0 = bI false) (h26 : M.1 26 D = nI k) (hk : k < n) (h25 : M.1 25 D = p) (h6 : M.1 6 k ≠ 3) (h6' : M.1 6 k ≠ 2) (h9 : M.1 9 k = nI s) (hs : s < 80) (h10 : M.1 10 k = nI t) (ht : t < 80)
    (h8 : M.1 8 k = nI d) (hd : d < 4) (h107 : M.1 107 0 = nI T) (hT : T ≤ 4000) (hfr : val (M.1 2) (M.1 4) (M.2.1 5) s = fr) (hto : val (M.1 2) (M.1 4) (M.2.1 5) t = to) (N : Nat) :
    f_X12_walk_58 (N + 1) (nI D) M = if fr ≤ to then f_X12_walk_58 N (nI (D + 1)) (sI (sI (sI (sL (sI (sL (sI M 26 D (nI (nx (M.1 7) p (n - (k + 1)) (k + 1)))) 27 (D + 1) to) 25 (D + 1) (nI k)) 5 d fr) 107 0 (nI (T + 1))) 108 0 (bI (decide (4000 < T + 1)))) 26 (D + 1) (nI (nx (M.1 7) (nI k) n 0)))
      else f_X12_walk_58 N (nI D) (sL (sI (sL (sI (sL (sI M 26 D (nI (nx (M.1 7) p (n - (k + 1)) (k + 1)))) 27 (D + 1) to) 25 (D + 1) (nI k)) 5 d fr) 26 (D + 1) (nI n)) 5 d 0) := by
  rw [f_X12_walk_58, if_neg (nI_pos (by omega)), h108, zb_b, bF, ck_nI (by omega) (by omega), nI_clamp (by omega), h26, h102, if_neg (nI_ge hk (by omega)), ck_nI (by omega) (by omega), h25, nI_1, nxI_eq h102 hn (by omega), bq_s, ck_nI (by omega) (by omega), ck_nI (by omega) (by omega), nI_clamp (by omega), sI_n (by decide), if_neg h6, ck_nI (by omega) (by omega), if_neg h6', ck_nI (by omega) (by omega), sI_n (by decide), h9, vo_eq hs, bq_s, ck_nI (by omega) (by omega), sI_n (by decide), h10, vo_eq ht, bq_s]
  simp only [sI_n (show (2 : Nat) ≠ 26 by decide), sI_n (show (4 : Nat) ≠ 26 by decide), sI_2]
  rw [hfr, hto, nI_1, ck_nI hD (by omega), ck_nI hD (by omega), ck_nI (by omega) (by omega), nI_clamp (by omega), sI_n (by decide), sL_1, sI_n (by decide), h8, ck_nI hd (by omega), nI_clamp (by omega)]
  generalize hM1 : sI M 26 D (nI (nx (M.1 7) p (n - (k + 1)) (k + 1))) = M1
  have g102 : M1.1 102 0 = nI n := by rw [← hM1, sI_n (by decide)]; exact h102
  have g107 : M1.1 107 0 = nI T := by rw [← hM1, sI_n (by decide)]; exact h107
  have g108 : M1.1 108 0 = bI false := by rw [← hM1, sI_n (by decide)]; exact h108
  have g8 : M1.1 8 k = nI d := by rw [← hM1, sI_n (by decide)]; exact h8
  have g7 : M1.1 7 = M.1 7 := by rw [← hM1, sI_n (by decide)]
  have e25 : (sL (sI (sL M1 27 (D + 1) to) 25 (D + 1) (nI k)) 5 d fr).1 25 (D + 1) = nI k := by rw [sL_1, sI_e, pk_us]
  have e8 : (sL (sI (sL M1 27 (D + 1) to) 25 (D + 1) (nI k)) 5 d fr).1 8 k = nI d := by rw [sL_1, sI_n (by decide), sL_1]; exact g8
  have e5 : (sL (sI (sL M1 27 (D + 1) to) 25 (D + 1) (nI k)) 5 d fr).2.1 5 d = fr := by rw [sL_e, pk_uLs]
  have e27 : (sL (sI (sL M1 27 (D + 1) to) 25 (D + 1) (nI k)) 5 d fr).2.1 27 (D + 1) = to := by rw [sL_n (by decide), sI_2, sL_e, pk_uLs]
  have e107 : (sL (sI (sL M1 27 (D + 1) to) 25 (D + 1) (nI k)) 5 d fr).1 107 0 = nI T := by rw [sL_1, sI_n (by decide), sL_1]; exact g107
  have e108 : (sL (sI (sL M1 27 (D + 1) to) 25 (D + 1) (nI k)) 5 d fr).1 108 0 = bI false := by rw [sL_1, sI_n (by decide), sL_1]; exact g108
  have e102 : (sL (sI (sL M1 27 (D + 1) to) 25 (D + 1) (nI k)) 5 d fr).1 102 0 = nI n := by rw [sL_1, sI_n (by decide), sL_1]; exact g102
  have e7 : (sL (sI (sL M1 27 (D + 1) to) 25 (D + 1) (nI k)) 5 d fr).1 7 = M.1 7 := by rw [sL_1, sI_n (by decide), sL_1]; exact g7
  rw [turns_eq hD e25 (by omega) e8 hd e5 e27 e107 hT e108]
  generalize sL (sI (sL M1 27 (D + 1) to) 25 (D + 1) (nI k)) 5 d fr = M2 at *
  unfold f_X12_walk_276
  by_cases q : fr ≤ to
  · rw [if_pos q, if_pos q, bd_s, bT]
    have f102 : (sI (sI M2 107 0 (nI (T + 1))) 108 0 (bI (decide (4000 < T + 1)))).1 102 0 = nI n := by rw [sI_n (by decide), sI_n (by decide)]; exact e102
    have f7 : (sI (sI M2 107 0 (nI (T + 1))) 108 0 (bI (decide (4000 < T + 1)))).1 7 = M.1 7 := by rw [sI_n (by decide), sI_n (by decide)]; exact e7
    rw [i_n0, nxI_eq f102 hn (by omega), bq_s, f7, ck_nI hD (by omega), ck_nI hD (by omega), nI_clamp (by omega), sI_2, sI_2, sI_2, e27, if_pos q]
    rfl
  · rw [if_neg q, if_neg q, bd_s, bF, ck_nI hD (by omega), ck_nI hD (by omega), nI_clamp (by omega), sI_2, e27, if_neg q, e102]
    unfold f_X12_closeLoop
    rw [ck_nI hD (by omega), nI_clamp (by omega), sI_n (by decide), e25, ck_nI (by omega) (by omega), nI_clamp (by omega), sI_n (by decide), e8, ck_nI hd (by omega), nI_clamp (by omega), bm_s, pk_m1]
/-- the end of a test's nodes -/
theorem f58_endT {q : Nat} (h102 : M.1 102 0 = nI n) (hn : n ≤ 40) (hD : D + 1 < 41) (h108 : M.1 108 0 = bI false) (h26 : M.1 26 (D + 1) = nI n) (h25 : M.1 25 (D + 1) = nI q) (hq : q < n) (h6 : M.1 6 q = 2) (N : Nat) : f_X12_walk_58 (N + 1) (nI (D + 1)) M = f_X12_walk_58 N (nI D) M := by
  rw [f_X12_walk_58, if_neg (nI_pos (by omega)), h108, zb_b, bF, ck_nI hD (by omega), nI_clamp (by omega), h26, h102, if_pos (nI_le (Nat.le_refl _) (by omega)), ck_nI hD (by omega), h25, if_neg (nN9 (by omega))]
  unfold f_X12_isLoop
  rw [ck_nI (by omega) (by omega), nI_clamp (by omega), h6, if_neg (by decide), ck_nI (by omega) (by omega), if_neg (by decide), bq_s, bF, pk_m1]
theorem isLp_eq {q : Nat} (hq : q < 40) (hl : M.1 6 q = 0 ∨ M.1 6 q = 1) : f_X12_isLoop M (nI q) = some true := by
  unfold f_X12_isLoop
  rw [ck_nI hq (by omega), nI_clamp (by omega)]
  rcases hl with z | z
  · rw [if_pos z]
  · rw [if_neg (by rw [z]; decide), ck_nI hq (by omega), if_pos z]
/-- the end of a loop's turn -/
theorem f58_endL {q d T : Nat} {v to : Int64} (h102 : M.1 102 0 = nI n) (hn : n ≤ 40) (hD : D + 1 < 41) (h108 : M.1 108 0 = bI false) (h26 : M.1 26 (D + 1) = nI n) (h25 : M.1 25 (D + 1) = nI q) (hq : q < n) (h6 : M.1 6 q = 0 ∨ M.1 6 q = 1) (h8 : M.1 8 q = nI d) (hd : d < 4) (h107 : M.1 107 0 = nI T) (hT : T ≤ 4000)
    (h5 : M.2.1 5 d = v) (h27 : M.2.1 27 (D + 1) = to) (N : Nat) :
    f_X12_walk_58 (N + 1) (nI (D + 1)) M = if v + 1 ≤ to then f_X12_walk_58 N (nI (D + 1)) (sI (sI (sI (sL M 5 d (v + 1)) 107 0 (nI (T + 1))) 108 0 (bI (decide (4000 < T + 1)))) 26 (D + 1) (nI (nx (M.1 7) (nI q) n 0)))
      else f_X12_walk_58 N (nI D) (sL (sL M 5 d (v + 1)) 5 d 0) := by
  rw [f_X12_walk_58, if_neg (nI_pos (by omega)), h108, zb_b, bF, ck_nI hD (by omega), nI_clamp (by omega), h26, h102, if_pos (nI_le (Nat.le_refl _) (by omega)), ck_nI hD (by omega), h25, if_neg (nN9 (by omega)), isLp_eq (by omega) h6, bq_s, bT, ck_nI (by omega) (by omega), nI_clamp (by omega), h8, ck_nI hd (by omega), ck_nI hd (by omega), nI_clamp (by omega), h5]
  have e25 : (sL M 5 d (v + 1)).1 25 (D + 1) = nI q := h25
  have e8 : (sL M 5 d (v + 1)).1 8 q = nI d := h8
  have e5 : (sL M 5 d (v + 1)).2.1 5 d = v + 1 := by rw [sL_e, pk_uLs]
  have e27 : (sL M 5 d (v + 1)).2.1 27 (D + 1) = to := by rw [sL_n (by decide)]; exact h27
  rw [turns_eq hD e25 (by omega) e8 hd e5 e27 h107 hT h108]
  by_cases z : v + 1 ≤ to
  · rw [if_pos z, if_pos z, bd_s, bT]
    have f102 : (sI (sI (sL M 5 d (v + 1)) 107 0 (nI (T + 1))) 108 0 (bI (decide (4000 < T + 1)))).1 102 0 = nI n := by rw [sI_n (by decide), sI_n (by decide)]; exact h102
    have f7 : (sI (sI (sL M 5 d (v + 1)) 107 0 (nI (T + 1))) 108 0 (bI (decide (4000 < T + 1)))).1 7 = M.1 7 := by rw [sI_n (by decide), sI_n (by decide)]; rfl
    rw [i_n0, nxI_eq f102 hn (by omega), bq_s, f7, ck_nI hD (by omega)]
    rfl
  · rw [if_neg z, if_neg z, bd_s, bF]
    unfold f_X12_closeLoop
    rw [ck_nI hD (by omega), nI_clamp (by omega), e25, ck_nI (by omega) (by omega), nI_clamp (by omega), e8, ck_nI hd (by omega), nI_clamp (by omega), bm_s, pk_m1]
/-- the end of all -/
theorem f58_top (h102 : M.1 102 0 = nI n) (hn : n ≤ 40) (h108 : M.1 108 0 = bI false) (h26 : M.1 26 0 = nI n) (h25 : M.1 25 0 = -9) (N : Nat) : f_X12_walk_58 (N + 2) (nI 0) M = some (false, M) := by
  rw [f_X12_walk_58, if_neg (by decide), h108, zb_b, bF, ck_nI (by omega) (by omega), nI_clamp (by omega), h26, h102, if_pos (nI_le (Nat.le_refl _) (by omega)), ck_nI (by omega) (by omega), h25, if_pos rfl, f_X12_walk_58, if_pos (by decide), h108, zb_b]
end
