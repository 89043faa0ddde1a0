/-! the pure half: adding a node -/
/-- loops around what stands in p -/
def lvO (kd lp : Nat → Int32) (p : Int32) (hp : Nat) (l : Nat) : Prop := (p = -9 ∧ l = 0) ∨ (p ≠ -9 ∧ Lq kd hp ∧ l = cN_ (lp hp) + 1) ∨ (p ≠ -9 ∧ ¬ Lq kd hp ∧ l = cN_ (lp hp))
theorem isLpc {M : Mem} {j : Nat} {b : Bool} {kd : Nat → Int32} (hj : j < 40) (hb : (b = true ∧ Lq kd j) ∨ (b = false ∧ ¬ Lq kd j)) (h : M.1 9 = kd) : f_X2_isLoop M (nI j) = some b := by
  unfold f_X2_isLoop
  simp only [ck40 hj]
  rw [nI_clamp (by omega), h]
  rcases hb with ⟨rfl, z | z⟩ | ⟨rfl, z⟩
  · rw [if_pos z]
  · rw [if_neg (by rw [z]; decide), if_pos z]
  · rw [if_neg (fun y => z (.inl y)), if_neg (fun y => z (.inr y))]
theorem isLpm {M : Mem} {j : Nat} {b : Bool} {kd : Nat → Int32} (hj : j < 40) (hb : (b = true ∧ Lq kd j) ∨ (b = false ∧ ¬ Lq kd j)) (h : M.1 6 = kd) : f_X12_isLoop M (nI j) = some b := by
  unfold f_X12_isLoop
  simp only [ck40 hj]
  rw [nI_clamp (by omega), h]
  rcases hb with ⟨rfl, z | z⟩ | ⟨rfl, z⟩
  · rw [if_pos z]
  · rw [if_neg (by rw [z]; decide), if_pos z]
  · rw [if_neg (fun y => z (.inl y)), if_neg (fun y => z (.inr y))]
theorem lIn_eq {M N : Mem} {n hp l : Nat} {p : Int32} {kd lp : Nat → Int32} (hn : n ≤ 40) (hP : PaO n kd p hp) (hL : hp < n → lp hp = nI (cN_ (lp hp)) ∧ cN_ (lp hp) ≤ 4) (hl : lvO kd lp p hp l) (h9 : M.1 9 hp = kd hp) (h11 : M.1 11 hp = lp hp) (h6 : N.1 6 hp = kd hp) (h8 : N.1 8 hp = lp hp) : f_X2_loopsIn M p = some (nI l) ∧ f_X12_depthIn N p = some (nI l) := by
  unfold f_X2_loopsIn f_X12_depthIn
  rcases hP with ⟨h1, h2⟩ | ⟨h1, h2, h3⟩
  · rcases hl with ⟨_, e⟩ | ⟨e, _⟩ | ⟨e, _⟩
    · rw [if_pos h1, if_pos h1, e]; exact ⟨rfl, rfl⟩
    · exact absurd h1 e
    · exact absurd h1 e
  · have n9 : ¬ p = -9 := by rw [h1]; exact nN9 (by omega)
    obtain ⟨q1, q2⟩ := hL h2
    rw [if_neg n9, if_neg n9, h1]
    unfold f_X2_isLoop f_X12_isLoop
    simp only [ck40 (show hp < 40 by omega)]
    rw [nI_clamp (by omega), h9, h11, h6, h8]
    rcases hl with ⟨e, _⟩ | ⟨_, e1, e2⟩ | ⟨_, e1, e2⟩
    · exact absurd e n9
    · have eb : (if kd hp = 0 then some true else if kd hp = 1 then some true else some false) = some true := by
        rcases e1 with z | z
        · rw [if_pos z]
        · rw [if_neg (by rw [z]; decide), if_pos z]
      rw [eb, bq_s, bq_s, bT, bT, q1, nI_1, e2]; exact ⟨rfl, rfl⟩
    · have eb : (if kd hp = 0 then some true else if kd hp = 1 then some true else some false) = some false := by
        rw [if_neg (fun y => e1 (.inl y)), if_neg (fun y => e1 (.inr y))]
      rw [eb, bq_s, bq_s, bF, bF, Int32.add_zero, e2, ← q1]; exact ⟨rfl, rfl⟩
theorem inh_eq {M : Mem} {n l hp : Nat} {p : Int32} {kd lp : Nat → Int32} (hn : n < 40) (hl4 : l ≤ 4) (hP : PaO n kd p hp) (hl : lvO kd lp p hp l) (h9 : M.1 9 hp = kd hp) (h11 : M.1 11 n = nI l) (h11p : hp < n → M.1 11 hp = nI (cN_ (lp hp)) ∧ cN_ (lp hp) ≤ 4) :
    ∃ M', f_X2_inherit M (nI n) p = some M' ∧ (∀ c, c ≠ 14 → c ≠ 15 → M'.1 c = M.1 c) ∧ M'.2 = M.2 ∧ (∀ z, ¬ (n * 4 ≤ z ∧ z < n * 4 + 4) → M'.1 14 z = M.1 14 z) ∧ (∀ z, ¬ (n * 5 ≤ z ∧ z < n * 5 + 5) → M'.1 15 z = M.1 15 z) ∧
      (∀ e, e < l → (e + 1 = l ∧ Lq kd hp → M'.1 14 (n * 4 + e) = p) ∧ (¬ (e + 1 = l ∧ Lq kd hp) → M'.1 14 (n * 4 + e) = M.1 14 (hp * 4 + e))) ∧
      (∀ e, e ≤ l → (p ≠ -9 ∧ e ≤ cN_ (lp hp) → M'.1 15 (n * 5 + e) = M.1 15 (hp * 5 + e)) ∧ (¬ (p ≠ -9 ∧ e ≤ cN_ (lp hp)) → M'.1 15 (n * 5 + e) = nI n)) := by
  unfold f_X2_inherit
  rw [ck40 hn, nI_clamp (by omega), h11, i_n0]
  rcases hP with ⟨h1, h2⟩ | ⟨h1, h2, h3⟩
  · have l0 : l = 0 := by
      rcases hl with ⟨_, e⟩ | ⟨e, _⟩ | ⟨e, _⟩
      · exact e
      · exact absurd h1 e
      · exact absurd h1 e
    subst l0
    obtain ⟨M', e1, e2, e3, e4, e5⟩ := inh99 (n := n) (l := 0) (ps := 0) (x2 := p) (g := fun _ => 0) hn (by omega) (by omega) (fun d hd => absurd hd (by omega)) 1 0 100000 M (by omega) (by omega)
    have e1' : f_X2_inherit_99 100000 (nI n) p (nI 0) 0 0 M = some M' := e1
    rw [show (100000 : Nat) = 99999 + 1 from rfl, f_X2_inherit_10, if_pos (nI_le (Nat.le_refl _) (by omega)), if_pos h1, e1']
    refine ⟨M', rfl, fun c a b => e2 c b, e3, fun z hz => by rw [e2 14 (by decide)], fun z hz => e4 z (by omega), fun e he => absurd he (by omega), fun e he => ⟨fun z => absurd h1 z.1, fun _ => (e5 e (by omega) he).2 (by omega)⟩⟩
  · have n9 : p ≠ -9 := by rw [h1]; exact nN9 (by omega)
    obtain ⟨q1, q2⟩ := h11p h2
    obtain ⟨b, hb⟩ : ∃ b : Bool, (b = true ∧ Lq kd hp) ∨ (b = false ∧ ¬ Lq kd hp) := by
      by_cases z : Lq kd hp
      · exact ⟨true, .inl ⟨rfl, z⟩⟩
      · exact ⟨false, .inr ⟨rfl, z⟩⟩
    have hb' : (b = true ∧ Lq (M.1 9) hp) ∨ (b = false ∧ ¬ Lq (M.1 9) hp) := by
      unfold Lq at *
      rw [h9]; exact hb
    obtain ⟨M1, e1, e2, e3, e4, e5⟩ := inh10 (n := n) (l := l) (j := hp) (L := cN_ (lp hp)) (b := b) (kd := M.1 9) hn h2 hl4 q2 (fun M' hM => isLpc (by omega) hb' hM) l 0 100000 M (by omega) (by omega) rfl q1
    obtain ⟨M', g1, g2, g3, g4, g5⟩ := inh99 (n := n) (l := l) (ps := cN_ (lp hp) + 1) (x2 := nI hp) (g := fun d => hp * 5 + d) hn hl4 (by omega) (fun d hd => ⟨by rw [i_n5, pk_mul, nI_add], by omega⟩) (l + 1) 0 100000 M1 (by omega) (by omega)
    rw [h1, e1, g1]
    refine ⟨M', rfl, fun c a b => by rw [g2 c b, e2 c a], by rw [g3, e3], fun z hz => by rw [g2 14 (by decide), e4 z (by omega)], fun z hz => by rw [g4 z (by omega), e2 15 (by decide)], fun e he => ?_, fun e he => ?_⟩
    · obtain ⟨w1, w2⟩ := e5 e (by omega) he
      rw [g2 14 (by decide)]
      rcases hb with ⟨z1, z2⟩ | ⟨z1, z2⟩
      · exact ⟨fun y => w1 ⟨y.1, z1⟩, fun y => w2 (fun x => y ⟨x.1, z2⟩)⟩
      · exact ⟨fun y => absurd y.2 z2, fun y => w2 (fun x => by rw [z1] at x; exact absurd x.2 (by decide))⟩
    · obtain ⟨w1, w2⟩ := g5 e (by omega) he
      refine ⟨fun y => by rw [w1 (by omega), e2 15 (by decide)], fun y => w2 (fun x => y ⟨nN9 (by omega), by omega⟩)⟩
/-- hanging node n into its parent -/
theorem hang_eq {M : Mem} {n hp : Nat} (hn : n < 40) (hh : hp < n ∨ hp = 40) (hlast : M.1 7 hp = -9 ∨ ∃ k, k < n ∧ M.1 7 hp = nI k) :
    ∃ M', f_X2_hang M (nI n) (nI hp) = some M' ∧ (∀ c, c ≠ 6 → c ≠ 7 → c ≠ 8 → M'.1 c = M.1 c) ∧ M'.2 = M.2 ∧ M'.1 7 = upd (upd (M.1 7) n (-9)) hp (nI n) ∧
      ((M.1 7 hp = -9 ∧ M'.1 6 = upd (upd (M.1 6) n (-9)) hp (nI n) ∧ M'.1 8 = upd (M.1 8) n (-9)) ∨ (∃ k, k < n ∧ M.1 7 hp = nI k ∧ M'.1 6 = upd (M.1 6) n (-9) ∧ M'.1 8 = upd (upd (M.1 8) n (-9)) k (nI n))) := by
  unfold f_X2_hang
  have e7 : (sI (sI (sI M 6 n (-9)) 7 n (-9)) 8 n (-9)).1 7 hp = M.1 7 hp := by rw [sI_n (by decide), sI_e, pk_un (by omega), sI_n (by decide)]
  simp only [ck_nI (show n < 41 by omega) (by decide : (41 : Nat) < 2 ^ 31), ck40 hn, ck_nI (show hp < 41 by omega) (by decide : (41 : Nat) < 2 ^ 31)]
  rw [nI_clamp (by omega), nI_clamp (by omega), e7]
  rcases hlast with z | ⟨k, hk, z⟩
  · rw [if_pos z]
    refine ⟨_, rfl, fun c a b d => by rw [sI_n b, sI_n a, sI_n d, sI_n b, sI_n a], rfl, ?_, .inl ⟨z, ?_, ?_⟩⟩
    · rw [sI_e, sI_n (by decide), sI_n (by decide), sI_e, sI_n (by decide)]
    · rw [sI_n (by decide), sI_e, sI_n (by decide), sI_n (by decide), sI_e]
    · rw [sI_n (by decide), sI_n (by decide), sI_e, sI_n (by decide), sI_n (by decide)]
  · rw [if_neg (by rw [z]; exact nN9 (by omega)), z, ck40 (by omega), nI_clamp (by omega)]
    refine ⟨_, rfl, fun c a b d => by rw [sI_n b, sI_n d, sI_n d, sI_n b, sI_n a], rfl, ?_, .inr ⟨k, hk, rfl, ?_, ?_⟩⟩
    · rw [sI_e, sI_n (by decide), sI_n (by decide), sI_e, sI_n (by decide)]
    · rw [sI_n (by decide), sI_n (by decide), sI_n (by decide), sI_n (by decide), sI_e]
    · rw [sI_n (by decide), sI_e, sI_e, sI_n (by decide), sI_n (by decide)]
/-- the lists of nodes with one more -/
theorem LW_ext {n hp : Nat} {kd pa fI_ lI_ nt fI' lI' nt' : Nat → Int32} {p : Int32} (hn : n < 40) (hP : PaO n kd p hp) (hpa : ∀ k, k < n → pa k = -9 ∨ (pa k = nI (cN_ (pa k)) ∧ cN_ (pa k) < k)) (h : LW n pa fI_ lI_ nt) (e7 : lI' = upd (upd lI_ n (-9)) hp (nI n))
    (e68 : (lI_ hp = -9 ∧ fI' = upd (upd fI_ n (-9)) hp (nI n) ∧ nt' = upd nt n (-9)) ∨ (∃ k, k < n ∧ lI_ hp = nI k ∧ fI' = upd fI_ n (-9) ∧ nt' = upd (upd nt n (-9)) k (nI n))) : LW (n + 1) (upd pa n p) fI' lI' nt' := by
  have ep := PaO_pv (by omega) hP
  have hh : hp < n ∨ hp = 40 := by
    rcases hP with ⟨_, z⟩ | ⟨_, z, _⟩
    · exact .inr z
    · exact .inl z
  have hne : hp ≠ n := by omega
  have npn : p ≠ nI n := by
    rcases hP with ⟨z, _⟩ | ⟨z, z2, _⟩
    · rw [z]; exact fun y => nN9 (by omega) y.symm
    · rw [z]; exact fun y => by have := nI_inj (by omega) (by omega) y; omega
  have none : ∀ k, k < n + 1 → upd pa n p k ≠ nI n := by
    intro k hk
    by_cases z : k = n
    · rw [z, pk_us]; exact npn
    · rw [pk_un z]
      rcases hpa k (by omega) with y | ⟨y1, y2⟩
      · rw [y]; exact fun w => nN9 (by omega) w.symm
      · rw [y1]; exact fun w => by have := nI_inj (by omega) (by omega) w; omega
  have pvn : pv n = nI n := by unfold pv; rw [if_neg (by omega)]
  obtain ⟨L1, L2, L3⟩ := h
  refine ⟨fun q hq => ?_, fun k hk => ?_, fun q hq => ?_⟩
  · by_cases z : q = n
    · subst z
      have e : nx (upd pa q p) (pv q) (q + 1) 0 = q + 1 := nx_uniq (by omega) (by omega) (fun y => absurd y (by omega)) (fun j _ hj => by rw [pvn]; exact none j hj)
      rw [e, cv_ge (by omega)]
      rcases e68 with ⟨_, x, _⟩ | ⟨_, _, _, x, _⟩
      · rw [x, pk_un (fun y => hne y.symm), pk_us]
      · rw [x, pk_us]
    · have hq' : q < n ∨ q = 40 := by omega
      by_cases y : q = hp
      · subst y
        have e := nx_e2 (pa := pa) (n := n) (c := 0) (p := p) (by omega)
        rw [Nat.sub_zero, Nat.sub_zero] at e
        rw [ep, e]
        have o := L1 q hq'
        rw [ep] at o
        obtain ⟨a1, a2, a3, a4⟩ := nx_spec pa p n 0
        rcases e68 with ⟨x0, x, _⟩ | ⟨k, hk, x0, x, _⟩
        · rw [x, pk_us]
          have all : ∀ j, j < n → pa j ≠ p := by
            rcases L3 q hq' with ⟨_, w⟩ | ⟨k, w1, w2, _⟩
            · intro j hj; rw [← ep]; exact w j hj
            · rw [x0] at w2; exact absurd w2.symm (nN9 (by omega))
          have : nx pa p n 0 = n := nx_uniq (by omega) (by omega) (fun y => absurd y (by omega)) (fun j _ hj => all j hj)
          rw [this, cv_lt (by omega)]
        · rw [x, pk_un z, o]
          have lt : nx pa p n 0 < n := by
            rcases Nat.lt_or_ge (nx pa p n 0) n with w | w
            · exact w
            · rcases L3 q hq' with ⟨w1, _⟩ | ⟨k', w1, w2, w3, _⟩
              · rw [x0] at w1; exact absurd w1 (nN9 (by omega))
              · rw [ep] at w3
                exact absurd w3 (a4 k' (by omega) (by omega))
          rw [cv_lt lt, cv_lt (by omega)]
      · have nep : pv q ≠ p := by rw [← ep]; exact fun w => y (pv_inj (by omega) (by omega) w)
        have e := nx_e1 (pa := pa) (n := n) (c := 0) (p := p) (q := pv q) (by omega) nep
        rw [Nat.sub_zero, Nat.sub_zero] at e
        rw [e, ← L1 q hq']
        rcases e68 with ⟨_, x, _⟩ | ⟨_, _, _, x, _⟩
        · rw [x, pk_un y, pk_un z]
        · rw [x, pk_un z]
  · by_cases z : k = n
    · subst z
      rw [pk_us, show k + 1 - (k + 1) = 0 by omega]
      show nt' k = cv (k + 1) (k + 1)
      rw [cv_ge (by omega)]
      rcases e68 with ⟨_, _, x⟩ | ⟨k', hk', _, _, x⟩
      · rw [x, pk_us]
      · rw [x, pk_un (by omega), pk_us]
    · have hk' : k < n := by omega
      rw [pk_un z]
      have o := L2 k hk'
      obtain ⟨a1, a2, a3, a4⟩ := nx_spec pa (pa k) (n - (k + 1)) (k + 1)
      by_cases y : pa k = p
      · have e := nx_e2 (pa := pa) (n := n) (c := k + 1) (p := p) (by omega)
        rw [y] at o a1 a2 a3 a4 ⊢
        rw [e]
        rcases L3 hp hh with ⟨w0, w⟩ | ⟨kl, w1, w2, w3, w4⟩
        · exact absurd (by rw [ep]; exact y) (w k hk')
        · rcases e68 with ⟨x0, _, _⟩ | ⟨k', hk'', x0, _, x⟩
          · rw [x0] at w2; exact absurd w2.symm (nN9 (by omega))
          · have ekl : k' = kl := by rw [x0] at w2; exact nI_inj (by omega) (by omega) w2
            subst ekl
            rw [ep] at w3 w4
            by_cases v : k = k'
            · subst v
              have : nx pa p (n - (k + 1)) (k + 1) = n := nx_uniq (by omega) (by omega) (fun y => absurd y (by omega)) (fun j h1 h2 => w4 j (by omega) (by omega))
              rw [x, pk_us, this, cv_lt (by omega)]
            · rw [x, pk_un v, pk_un z, o]
              have lk : k < k' := by
                rcases Nat.lt_or_ge k k' with u | u
                · exact u
                · exact absurd y (w4 k (by omega) hk')
              have lt : nx pa p (n - (k + 1)) (k + 1) < n := by
                rcases Nat.lt_or_ge (nx pa p (n - (k + 1)) (k + 1)) n with u | u
                · exact u
                · exact absurd w3 (a4 k' (by omega) (by omega))
              rw [cv_lt lt, cv_lt (by omega)]
      · have e := nx_e1 (pa := pa) (n := n) (c := k + 1) (p := p) (q := pa k) (by omega) y
        rw [e, ← o]
        rcases e68 with ⟨_, _, x⟩ | ⟨k', hk'', x0, _, x⟩
        · rw [x, pk_un z]
        · have : k ≠ k' := by
            intro v
            subst v
            rcases L3 hp hh with ⟨w0, _⟩ | ⟨kl, w1, w2, w3, _⟩
            · rw [x0] at w0; exact absurd w0 (nN9 (by omega))
            · rw [x0] at w2
              have := nI_inj (by omega) (by omega) w2
              subst this
              rw [ep] at w3; exact y w3
          rw [x, pk_un this, pk_un z]
  · by_cases z : q = n
    · subst z
      refine .inl ⟨?_, fun k hk => by rw [pvn]; exact none k hk⟩
      rw [e7, pk_un (fun y => hne y.symm), pk_us]
    · have hq' : q < n ∨ q = 40 := by omega
      by_cases y : q = hp
      · subst y
        exact .inr ⟨n, by omega, by rw [e7, pk_us], by rw [pk_us, ep], fun j h1 h2 => absurd h2 (by omega)⟩
      · have nep : p ≠ pv q := by rw [← ep]; exact fun w => y (pv_inj (by omega) (by omega) w.symm)
        rw [e7, pk_un y, pk_un z]
        rcases L3 q hq' with ⟨w1, w2⟩ | ⟨k, w1, w2, w3, w4⟩
        · refine .inl ⟨w1, fun k hk => ?_⟩
          by_cases v : k = n
          · rw [v, pk_us]; exact nep
          · rw [pk_un v]; exact w2 k (by omega)
        · refine .inr ⟨k, by omega, w2, by rw [pk_un (by omega)]; exact w3, fun j h1 h2 => ?_⟩
          by_cases v : j = n
          · rw [v, pk_us]; exact nep
          · rw [pk_un v]; exact w4 j h1 (by omega)
