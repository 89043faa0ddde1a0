/-! the pure half: how nodes stand in each other -/
section
variable {ns nn na : Nat} {kd pa lp fi se ar pl an ao : Nat → Int32} {M : Mem}
theorem isIn_eq (hT : TW ns nn kd pa lp fi se) (hA : AW nn kd pa lp ar) (hn : nn ≤ 40) (e7 : M.1 7 = pa) {q : Nat} (hq : q < nn) (hql : Lq kd q) :
    ∀ k fuel, k < nn → k < fuel → f_X12_isIn_7 fuel (nI q) (pa k) M = some (decide (cN_ (lp q) < cN_ (lp k) ∧ ar (k * 4 + cN_ (lp q)) = nI q)) := by
  intro k
  induction k using Nat.strongRecOn with
  | ind k ih =>
    intro fuel hk hf
    obtain ⟨f, rfl⟩ : ∃ f, fuel = f + 1 := ⟨fuel - 1, by omega⟩
    obtain ⟨t1, t2, t3, t4, t5, t6, _⟩ := hT k hk
    rw [f_X12_isIn_7]
    unfold f_X12_isIn_28
    rcases t2 with z | ⟨z1, z2, z3⟩
    · rw [z, if_pos rfl, if_neg (fun y => nN9 (by omega) y.symm), decide_eq_false]
      rw [t4 z]; omega
    · generalize hu : cN_ (pa k) = u at *
      have n9 : ¬ pa k = -9 := by rw [z1]; exact nN9 (by omega)
      rw [if_neg n9, z1]
      by_cases y : u = q
      · subst y
        rw [if_pos rfl, if_pos rfl, decide_eq_true]
        have := t5 n9 hql
        refine ⟨by omega, ?_⟩
        have g := (hA k hk (cN_ (lp u)) (by omega)).1
        rw [hu] at g
        rw [g ⟨by omega, hql⟩, z1]
      · rw [if_neg (fun w => y (nI_inj (by omega) (by omega) w)), ck_nI (by omega) (by omega), nI_clamp (by omega), e7, ih u z2 f (by omega) (by omega)]
        congr 1
        rw [decide_eq_decide]
        by_cases hl : Lq kd u
        · have hL := t5 n9 hl
          constructor
          · intro ⟨w1, w2⟩
            refine ⟨by omega, ?_⟩
            have g := (hA k hk (cN_ (lp q)) (by omega)).2
            rw [hu] at g
            rw [g (by intro v; omega)]; exact w2
          · intro ⟨w1, w2⟩
            by_cases v : cN_ (lp q) < cN_ (lp u)
            · refine ⟨v, ?_⟩
              have g := (hA k hk (cN_ (lp q)) (by omega)).2
              rw [hu] at g
              rw [g (by intro v; omega)] at w2; exact w2
            · have g := (hA k hk (cN_ (lp q)) (by omega)).1
              rw [hu] at g
              rw [g ⟨by omega, hl⟩, z1] at w2
              exact absurd (nI_inj (by omega) (by omega) w2) y
        · have hL := t6 n9 hl
          have g : cN_ (lp q) < cN_ (lp k) → ar (k * 4 + cN_ (lp q)) = ar (u * 4 + cN_ (lp q)) := fun v => by
            have g := (hA k hk (cN_ (lp q)) v).2
            rw [hu] at g
            exact g (fun x => hl x.2)
          constructor
          · intro ⟨w1, w2⟩
            exact ⟨by omega, by rw [g (by omega)]; exact w2⟩
          · intro ⟨w1, w2⟩
            exact ⟨by omega, by rw [← g w1]; exact w2⟩
/-- the loop around at a depth -/
theorem lpOf_eq (hT : TW ns nn kd pa lp fi se) (hA : AW nn kd pa lp ar) (hn : nn ≤ 40) (e6 : M.1 6 = kd) (e7 : M.1 7 = pa) (e8 : M.1 8 = lp) {d : Nat} (hd : d < 4) :
    ∀ k fuel, k < nn → k < fuel → f_X12_loopOf_7 fuel (nI d) (pa k) M = some (if d < cN_ (lp k) then ar (k * 4 + d) else -9) := by
  intro k
  induction k using Nat.strongRecOn with
  | ind k ih =>
    intro fuel hk hf
    obtain ⟨f, rfl⟩ : ∃ f, fuel = f + 1 := ⟨fuel - 1, by omega⟩
    obtain ⟨t1, t2, t3, t4, t5, t6, _⟩ := hT k hk
    rw [f_X12_loopOf_7]
    rcases t2 with z | ⟨z1, z2, z3⟩
    · rw [z, if_pos rfl, if_neg (by rw [t4 z]; omega)]
    · generalize hu : cN_ (pa k) = u at *
      have n9 : ¬ pa k = -9 := by rw [z1]; exact nN9 (by omega)
      have hu' := hT u (by omega)
      rw [if_neg n9, z1]
      unfold f_X12_isLoop
      simp only [ck40 (show u < 40 by omega)]
      rw [nI_clamp (by omega), e6, e7, e8]
      have go : Lq kd u ∧ ¬ cN_ (lp u) = d ∨ ¬ Lq kd u → f_X12_loopOf_7 f (nI d) (pa u) M = some (if d < cN_ (lp k) then ar (k * 4 + d) else -9) := by
        intro c
        rw [ih u z2 f (by omega) (by omega)]
        congr 1
        rcases c with ⟨c1, c2⟩ | c
        · have hL := t5 n9 c1
          by_cases w : d < cN_ (lp u)
          · have g := (hA k hk d (by omega)).2
            rw [hu] at g
            rw [if_pos w, if_pos (by omega), g (by intro v; omega)]
          · rw [if_neg w, if_neg (by omega)]
        · have hL := t6 n9 c
          by_cases w : d < cN_ (lp u)
          · have g := (hA k hk d (by omega)).2
            rw [hu] at g
            rw [if_pos w, if_pos (by omega), g (fun v => c v.2)]
          · rw [if_neg w, if_neg (by omega)]
      by_cases c : Lq kd u
      · have eb : (if kd u = 0 then some true else if kd u = 1 then some true else some false) = some true := by
          rcases c with z | z
          · rw [if_pos z]
          · rw [if_neg (by rw [z]; decide), if_pos z]
        rw [eb, bq_s, bT, hu'.2.2.1.1]
        have hl4 : cN_ (lp u) ≤ 4 := hu'.2.2.1.2.1
        by_cases w : cN_ (lp u) = d
        · rw [w, if_pos rfl]
          have hL := t5 n9 c
          have g := (hA k hk d (by omega)).1
          rw [hu] at g
          rw [if_pos (by omega), g ⟨by omega, c⟩, z1]
        · rw [if_neg (fun y => w (nI_inj (by omega) (by omega) y))]
          exact go (.inl ⟨c, w⟩)
      · have eb : (if kd u = 0 then some true else if kd u = 1 then some true else some false) = some false := by
          rw [if_neg (fun z => c (.inl z)), if_neg (fun z => c (.inr z))]
        rw [eb, bq_s, bF]
        exact go (.inr c)
/-- the places of a node -/
theorem plOf_eq (hT : TW ns nn kd pa lp fi se) (hPl : PW nn pa lp pl) (hn : nn ≤ 40) (e6 : M.1 6 = kd) (e7 : M.1 7 = pa) (e8 : M.1 8 = lp) {d : Nat} :
    ∀ k fuel, k < nn → k < fuel → d ≤ cN_ (lp k) → f_X12_placeOf_2 fuel (nI d) (nI k) M = some (pl (k * 5 + d)) := by
  intro k
  induction k using Nat.strongRecOn with
  | ind k ih =>
    intro fuel hk hf hd
    obtain ⟨f, rfl⟩ : ∃ f, fuel = f + 1 := ⟨fuel - 1, by omega⟩
    obtain ⟨t1, t2, t3, t4, t5, t6, _⟩ := hT k hk
    have P1 := (hPl k hk d hd).1
    have P2 := (hPl k hk d hd).2
    rw [f_X12_placeOf_2]
    simp only [ck40 (show k < 40 by omega)]
    rw [nI_clamp (by omega), e7]
    rcases t2 with z | ⟨z1, z2, z3⟩
    · rw [if_pos z, P2 (fun y => y.1 z)]
    · have hu' := hT (cN_ (pa k)) (by omega)
      generalize hu : cN_ (pa k) = u at *
      have n9 : ¬ pa k = -9 := by rw [z1]; exact nN9 (by omega)
      rw [if_neg n9, z1]
      unfold f_X12_isLoop
      simp only [ck40 (show u < 40 by omega)]
      rw [nI_clamp (by omega), e6, e8]
      have hl4 : cN_ (lp u) ≤ 4 := hu'.2.2.1.2.1
      have go : d ≤ cN_ (lp u) → f_X12_placeOf_2 f (nI d) (nI u) M = some (pl (k * 5 + d)) := by
        intro c
        rw [ih u z2 f (by omega) (by omega) c, P1 ⟨n9, c⟩]
      by_cases c : Lq kd u
      · have hL := t5 n9 c
        have eb : (if kd u = 0 then some true else if kd u = 1 then some true else some false) = some true := by
          rcases c with z | z
          · rw [if_pos z]
          · rw [if_neg (by rw [z]; decide), if_pos z]
        rw [eb, bq_s, bT, hu'.2.2.1.1]
        by_cases w : d = cN_ (lp u) + 1
        · subst w
          rw [nI_pred, if_pos rfl, P2 (by intro y; omega)]
        · have hw : ¬ nI (cN_ (lp u)) = nI d - 1 := by
            cases d with
            | zero =>
              intro y
              have := congrArg Int32.toInt y
              rw [nI_toInt (by omega)] at this
              have e0 : (nI 0 - 1 : Int32).toInt = -1 := by decide
              omega
            | succ d => rw [nI_pred]; intro y; have := nI_inj (by omega) (by omega) y; omega
          rw [if_neg hw]
          exact go (by omega)
      · have hL := t6 n9 c
        have eb : (if kd u = 0 then some true else if kd u = 1 then some true else some false) = some false := by
          rw [if_neg (fun z => c (.inl z)), if_neg (fun z => c (.inr z))]
        rw [eb, bq_s, bF]
        exact go (by omega)
/-- over all acts, the class by their numbers, the reference by their nodes -/
theorem acts_ind (hC : CW nn na kd an ao) (hn : nn ≤ 40) (Φ : Nat → Nat → Prop) (h0 : Φ nn na) (h1 : ∀ k a, k < nn → a ≤ na → kd k ≠ 3 → Φ (k + 1) a → Φ k a) (h2 : ∀ k a, k < nn → a < na → kd k = 3 → an a = nI k → ao k = nI a → Φ (k + 1) (a + 1) → Φ k a) : Φ 0 0 := by
  have main : ∀ m k a, k + m = nn → a ≤ na → (∀ a', a' < na → (a' < a ↔ cN_ (an a') < k)) → Φ k a := by
    intro m
    induction m with
    | zero =>
      intro k a hk ha hac
      have e : k = nn := by omega
      have e2 : a = na := by
        rcases Nat.lt_or_ge a na with z | z
        · obtain ⟨j, hj, x1, _⟩ := hC.1 a z
          have := (hac a z).mpr (by rw [x1]; show (nI j).toNatClampNeg < k; rw [nI_clamp (by omega)]; omega)
          omega
        · omega
      subst e e2
      exact h0
    | succ m ih =>
      intro k a hk ha hac
      by_cases q : kd k = 3
      · obtain ⟨a0, ha0, x1, x2⟩ := hC.2.1 k (by omega) q
        have ek : cN_ (an a0) = k := by rw [x2]; exact nI_clamp (by omega)
        have e : a0 = a := by
          rcases Nat.lt_trichotomy a0 a with z | z | z
          · have := (hac a0 ha0).mp z; omega
          · exact z
          · have y := hC.2.2 a a0 z ha0
            have := (hac a (by omega)).mpr (by omega); omega
        subst e
        refine h2 k a0 (by omega) ha0 q x2 x1 (ih (k + 1) (a0 + 1) (by omega) (by omega) (fun a' ha' => ?_))
        have i1 := hac a' ha'
        constructor
        · intro z
          by_cases y : a' = a0
          · rw [y, ek]; omega
          · have := i1.mp (by omega); omega
        · intro z
          by_cases y : a' = a0
          · omega
          · have : cN_ (an a') ≠ k := by
              intro w
              rcases Nat.lt_trichotomy a' a0 with v | v | v
              · have := hC.2.2 a' a0 v ha0; omega
              · exact y v
              · have := hC.2.2 a0 a' v ha'; omega
            have := i1.mpr (by omega); omega
      · refine h1 k a (by omega) ha q (ih (k + 1) a (by omega) ha (fun a' ha' => ?_))
        have i1 := hac a' ha'
        obtain ⟨j, hj, x1, x2, x3⟩ := hC.1 a' ha'
        have ej : cN_ (an a') = j := by rw [x1]; exact nI_clamp (by omega)
        have : cN_ (an a') ≠ k := by
          intro w
          rw [ej] at w
          rw [w] at x2
          exact q x2
        constructor
        · intro z; have := i1.mp z; omega
        · intro z; exact i1.mpr (by omega)
  exact main nn 0 0 (by omega) (by omega) (fun a' ha' => by constructor <;> intro z <;> omega)
end
