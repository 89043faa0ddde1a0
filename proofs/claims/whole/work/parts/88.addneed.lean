/-! the pure half: one need more -/
abbrev Cab (an : Nat → Int32) (σ : Ws) (a b v w : Nat) : Prop := an a = nI (wA σ v) ∧ an b = nI (wA σ w)
abbrev Tri : Type := Nat → Nat → Nat → Prop
abbrev cmA (lp ar an : Nat → Int32) (a b : Nat) : Nat := comO lp ar (cN_ (an a)) (cN_ (an b)) 4 0
def GI (na : Nat) (an lp ar : Nat → Int32) (σ : Ws) (G : Tri) (M : Mem) : Prop :=
  (∀ v w k, G v w k → v < w ∧ w < wN σ ∧ k < 3) ∧
  (∀ a, a < na → ∀ b, b < na → ∀ k, k < 3 → M.1 44 ((a * 12 + b) * 3 + k) = nI (cnt3 (wN σ) (fun v w k' => (Cab an σ a b v w ∧ k' = k) ∧ G v w k'))) ∧
  (∀ d, d < 5 → M.1 45 d = nI (cnt3 (wN σ) (fun v w k => depO lp ar σ v w = d ∧ G v w k))) ∧
  (∀ a, a < na → ∀ b, b < na → M.1 46 (a * 12 + b) = nI (cnt3 (wN σ) (fun v w k => Cab an σ a b v w ∧ G v w k))) ∧
  (∀ a, a < na → ∀ b, b < na → ∀ d, d < 5 → M.1 47 ((a * 12 + b) * 5 + d) = nI (cnt3 (wN σ) (fun v w k => (Cab an σ a b v w ∧ depO lp ar σ v w = d) ∧ G v w k))) ∧
  (∀ a, a < na → ∀ b, b < na → ∀ d, d < cmA lp ar an a b → ∀ v w k, G v w k → Cab an σ a b v w →
    (M.2.1 49 ((a * 12 + b) * 4 + d) ≤ stp (wL σ) v w d ∧ stp (wL σ) v w d ≤ M.2.1 50 ((a * 12 + b) * 4 + d) ∧
      (∃ v' w' k', G v' w' k' ∧ Cab an σ a b v' w' ∧ M.2.1 49 ((a * 12 + b) * 4 + d) = stp (wL σ) v' w' d) ∧
      (∃ v' w' k', G v' w' k' ∧ Cab an σ a b v' w' ∧ M.2.1 50 ((a * 12 + b) * 4 + d) = stp (wL σ) v' w' d)))
/-- what the class knows of the visits here -/
def GC (na : Nat) (an lp ar : Nat → Int32) (σ : Ws) (M : Mem) : Prop :=
  na ≤ 12 ∧ wN σ ≤ 400 ∧ (∀ v, v < wN σ → wA σ v < 40) ∧ (∀ a b, a < na → b < na → an a = an b → a = b) ∧
  (∀ v, v < wN σ → (∃ a, a < na ∧ M.1 35 v = nI a ∧ an a = nI (wA σ v)) ∧ ∀ d, d < 4 → M.2.1 36 (v * 4 + d) = wL σ (v * 4 + d)) ∧
  (∀ a, a < na → ∀ b, b < na → M.1 48 (a * 12 + b) = nI (cmA lp ar an a b))
def OnN (M M' : Mem) : Prop := (∀ c, c ≠ 44 → c ≠ 45 → c ≠ 46 → c ≠ 47 → M'.1 c = M.1 c) ∧ (∀ c, c ≠ 49 → c ≠ 50 → M'.2.1 c = M.2.1 c) ∧ M'.2.2 = M.2.2
theorem OnN_r (M : Mem) : OnN M M := ⟨fun _ _ _ _ _ => rfl, fun _ _ _ => rfl, rfl⟩
theorem OnN_t {M M1 M2 : Mem} (h : OnN M M1) (g : OnN M1 M2) : OnN M M2 := ⟨fun c x y z w => (g.1 c x y z w).trans (h.1 c x y z w), fun c x y => (g.2.1 c x y).trans (h.2.1 c x y), g.2.2.trans h.2.2⟩
theorem mn_l (b : Bool) (x y : Int64) : mnL b x y ≤ y ∧ (b = false → mnL b x y ≤ x) ∧ (mnL b x y = y ∨ b = false ∧ mnL b x y = x) := by
  unfold mnL
  cases b with
  | true => exact ⟨Int64.le_refl _, fun z => absurd z (by decide), .inl rfl⟩
  | false =>
    rw [bF]
    by_cases q : y < x
    · rw [if_pos q]; exact ⟨Int64.le_refl _, fun _ => Int64.le_of_lt q, .inl rfl⟩
    · rw [if_neg q]; exact ⟨Int64.not_lt.mp q, fun _ => Int64.le_refl _, .inr ⟨rfl, rfl⟩⟩
theorem mx_l (b : Bool) (x y : Int64) : y ≤ mxL b x y ∧ (b = false → x ≤ mxL b x y) ∧ (mxL b x y = y ∨ b = false ∧ mxL b x y = x) := by
  unfold mxL
  cases b with
  | true => exact ⟨Int64.le_refl _, fun z => absurd z (by decide), .inl rfl⟩
  | false =>
    rw [bF]
    by_cases q : x < y
    · rw [if_pos q]; exact ⟨Int64.le_refl _, fun _ => Int64.le_of_lt q, .inl rfl⟩
    · rw [if_neg q]; exact ⟨Int64.not_lt.mp q, fun _ => Int64.le_refl _, .inr ⟨rfl, rfl⟩⟩
section
variable {na : Nat} {an lp ar : Nat → Int32} {σ : Ws} {G : Tri} {M : Mem}
theorem ndadd {v w k : Nat} (hC : GC na an lp ar σ M) (hI : GI na an lp ar σ G M) (hv : v < w) (hw : w < wN σ) (hk : k < 3) (hG : ¬ G v w k) :
    ∃ M', f_X1_addNeed M (nI v) (nI w) (nI k) = some M' ∧ OnN M M' ∧ GI na an lp ar σ (fun v' w' k' => G v' w' k' ∨ v' = v ∧ w' = w ∧ k' = k) M' := by
  obtain ⟨c1, c2, c3, c4, c5, c6⟩ := hC
  obtain ⟨g1, g2, g3, g4, g5, g6⟩ := hI
  have kv := c3 v (by omega)
  have kw := c3 w hw
  obtain ⟨⟨a, ha, a1, a2⟩, al⟩ := c5 v (by omega)
  obtain ⟨⟨b, hb, b1, b2⟩, bl⟩ := c5 w hw
  have ea : cN_ (an a) = wA σ v := by rw [a2]; exact cN_n' (by omega)
  have eb : cN_ (an b) = wA σ w := by rw [b2]; exact cN_n' (by omega)
  have ua : ∀ a', a' < na → (an a' = nI (wA σ v) ↔ a' = a) := fun a' h => ⟨fun z => c4 a' a h ha (z.trans a2.symm), fun z => by rw [z]; exact a2⟩
  have ub : ∀ b', b' < na → (an b' = nI (wA σ w) ↔ b' = b) := fun b' h => ⟨fun z => c4 b' b h hb (z.trans b2.symm), fun z => by rw [z]; exact b2⟩
  have hcm : cmA lp ar an a b ≤ 4 := by have := @cm_le lp ar (cN_ (an a)) (cN_ (an b)) 4 0; omega
  have e48 := c6 a ha b hb
  have e46 := g4 a ha b hb
  have bnd := cnt3_b c2 (fun v w k => Cab an σ a b v w ∧ G v w k)
  have dpe : depO lp ar σ v w = dpO (wL σ) v w (cmA lp ar an a b) 4 0 := by unfold depO cmA; rw [ea, eb]
  have hdp : depO lp ar σ v w ≤ 4 := by rw [dpe]; exact dp_l 4 0 rfl
  unfold f_X1_addNeed
  rw [ck_nI (by omega) (by omega), ck_nI (by omega) (by omega), nI_clamp (by omega), nI_clamp (by omega), a1, b1, i_n12, pk_mul, nI_add, ck_nI (by omega) (by omega), ck_nI (by omega) (by omega), nI_clamp (by omega), e46, e48]
  have fin : ∀ fst : Bool, (fst = true ↔ cnt3 (wN σ) (fun v w k => Cab an σ a b v w ∧ G v w k) = 0) → ∃ M', f_X1_addNeed_59 100000 (nI v) (nI w) (nI k) (nI (a * 12 + b)) fst 4 (nI (cmA lp ar an a b) - 1) M = some M' ∧ OnN M M' ∧ GI na an lp ar σ (fun v' w' k' => G v' w' k' ∨ v' = v ∧ w' = w ∧ k' = k) M' := by
    intro fst hf
    have d4 : (4 : Int32) = nI (dpO (wL σ) v w (cmA lp ar an a b) (4 - cmA lp ar an a b) (cmA lp ar an a b)) := by
      have : dpO (wL σ) v w (cmA lp ar an a b) (4 - cmA lp ar an a b) (cmA lp ar an a b) = 4 := by
        generalize cmA lp ar an a b = c
        cases 4 - c with
        | zero => rfl
        | succ z => show (if c < c then _ else 4) = 4; rw [if_neg (by omega)]
      rw [this]; rfl
    obtain ⟨M1, r1, r2, r3, r4, r5, r6⟩ := an59 (L := wL σ) (v := v) (w := w) (com := cmA lp ar an a b) (pr := a * 12 + b) (k := k) (b := fst) (by omega) (by omega) (by omega) hk hcm (cmA lp ar an a b) 100000 M (by omega) (by omega) (fun d hd => ⟨al d hd, bl d hd⟩)
    rw [← dpe] at r1
    rw [d4, r1]
    have o1 : OnN M (addF (a * 12 + b) k (depO lp ar σ v w) M1) := by
      unfold addF
      exact ⟨fun c x y z u => by rw [sI_n u, sI_n y, sI_n x, sI_n z, r2], r3, r4⟩
    refine ⟨_, rfl, o1, ?_, ?_, ?_, ?_, ?_, ?_⟩
    · intro v' w' k' z
      rcases z with z | ⟨z1, z2, z3⟩
      · exact g1 v' w' k' z
      · rw [z1, z2, z3]; exact ⟨hv, hw, hk⟩
    · intro a' ha' b' hb' k' hk'
      rw [cnt3_u (C := fun v w k'' => Cab an σ a' b' v w ∧ k'' = k') hv hw hk hG]
      have e : (addF (a * 12 + b) k (depO lp ar σ v w) M1).1 44 = upd (M.1 44) ((a * 12 + b) * 3 + k) (M.1 44 ((a * 12 + b) * 3 + k) + 1) := by
        unfold addF
        rw [sI_n (by decide), sI_n (by decide), sI_e, sI_n (by decide), r2]
      rw [e]
      by_cases q : a' = a ∧ b' = b ∧ k' = k
      · rw [q.1, q.2.1, q.2.2, pk_us, g2 a ha b hb k hk, nI_1, ind_t ⟨⟨a2, b2⟩, rfl⟩]
      · rw [pk_un (fun z => q ⟨by omega, by omega, by omega⟩), g2 a' ha' b' hb' k' hk', ind_f (fun z => q ⟨(ua a' ha').mp z.1.1, (ub b' hb').mp z.1.2, z.2.symm⟩)]; rfl
    · intro d hd
      rw [cnt3_u (C := fun v w _ => depO lp ar σ v w = d) hv hw hk hG]
      have e : (addF (a * 12 + b) k (depO lp ar σ v w) M1).1 45 = upd (M.1 45) (depO lp ar σ v w) (M.1 45 (depO lp ar σ v w) + 1) := by
        unfold addF
        rw [sI_n (by decide), sI_e, sI_n (by decide), sI_n (by decide), r2]
      rw [e]
      by_cases q : depO lp ar σ v w = d
      · rw [q, pk_us, g3 d hd, nI_1, ind_t rfl]
      · rw [pk_un (fun z => q z.symm), g3 d hd, ind_f q]; rfl
    · intro a' ha' b' hb'
      rw [cnt3_u (C := fun v w _ => Cab an σ a' b' v w) hv hw hk hG]
      have e : (addF (a * 12 + b) k (depO lp ar σ v w) M1).1 46 = upd (M.1 46) (a * 12 + b) (M.1 46 (a * 12 + b) + 1) := by
        unfold addF
        rw [sI_n (by decide), sI_n (by decide), sI_n (by decide), sI_e, r2]
      rw [e]
      by_cases q : a' = a ∧ b' = b
      · rw [q.1, q.2, pk_us, g4 a ha b hb, nI_1, ind_t ⟨a2, b2⟩]
      · rw [pk_un (fun z => q ⟨by omega, by omega⟩), g4 a' ha' b' hb', ind_f (fun z => q ⟨(ua a' ha').mp z.1, (ub b' hb').mp z.2⟩)]; rfl
    · intro a' ha' b' hb' d hd
      rw [cnt3_u (C := fun v w _ => Cab an σ a' b' v w ∧ depO lp ar σ v w = d) hv hw hk hG]
      have e : (addF (a * 12 + b) k (depO lp ar σ v w) M1).1 47 = upd (M.1 47) ((a * 12 + b) * 5 + depO lp ar σ v w) (M.1 47 ((a * 12 + b) * 5 + depO lp ar σ v w) + 1) := by
        unfold addF
        rw [sI_e, sI_n (by decide), sI_n (by decide), sI_n (by decide), r2]
      rw [e]
      by_cases q : a' = a ∧ b' = b ∧ depO lp ar σ v w = d
      · rw [q.1, q.2.1, q.2.2, pk_us, g5 a ha b hb d hd, nI_1, ind_t ⟨⟨a2, b2⟩, rfl⟩]
      · rw [pk_un (fun z => q ⟨by omega, by omega, by omega⟩), g5 a' ha' b' hb' d hd, ind_f (fun z => q ⟨(ua a' ha').mp z.1.1, (ub b' hb').mp z.1.2, z.2⟩)]; rfl
    · intro a' ha' b' hb' d hd v' w' k' hG' hC'
      have q49 : (addF (a * 12 + b) k (depO lp ar σ v w) M1).2.1 49 = M1.2.1 49 := rfl
      have q50 : (addF (a * 12 + b) k (depO lp ar σ v w) M1).2.1 50 = M1.2.1 50 := rfl
      rw [q49, q50]
      have hcm' : cmA lp ar an a' b' ≤ 4 := by have := @cm_le lp ar (cN_ (an a')) (cN_ (an b')) 4 0; omega
      by_cases q : a' = a ∧ b' = b
      · obtain ⟨q1, q2⟩ := q
        subst q1 q2
        obtain ⟨x1, x2⟩ := r5 d hd
        rw [x1, x2]
        obtain ⟨n1, n2, n3⟩ := mn_l fst (M.2.1 49 ((a' * 12 + b') * 4 + d)) (stp (wL σ) v w d)
        obtain ⟨y1, y2, y3⟩ := mx_l fst (M.2.1 50 ((a' * 12 + b') * 4 + d)) (stp (wL σ) v w d)
        have old : ∀ v1 w1 k1, G v1 w1 k1 → Cab an σ a' b' v1 w1 → fst = false := fun v1 w1 k1 z z2 => by
          cases fst with
          | false => rfl
          | true => 
            have := g1 v1 w1 k1 z
            exact absurd ⟨z2, z⟩ (cnt3_z (hf.mp rfl) this.1 this.2.1 this.2.2)
        have ex : fst = false → ∃ v1 w1 k1, G v1 w1 k1 ∧ Cab an σ a' b' v1 w1 := fun z => by
          have : ¬ cnt3 (wN σ) (fun v w k => Cab an σ a' b' v w ∧ G v w k) = 0 := fun y => by rw [hf.mpr y] at z; exact absurd z (by decide)
          obtain ⟨v1, w1, k1, _, _, _, z1, z2⟩ := cnt3_nz this
          exact ⟨v1, w1, k1, z2, z1⟩
        refine ⟨?_, ?_, ?_, ?_⟩
        · rcases hG' with z | ⟨z1, z2, z3⟩
          · exact Int64.le_trans (n2 (old _ _ _ z hC')) (g6 a' ha b' hb d hd v' w' k' z hC').1
          · rw [z1, z2]; exact n1
        · rcases hG' with z | ⟨z1, z2, z3⟩
          · exact Int64.le_trans (g6 a' ha b' hb d hd v' w' k' z hC').2.1 (y2 (old _ _ _ z hC'))
          · rw [z1, z2]; exact y1
        · rcases n3 with z | ⟨z1, z2⟩
          · exact ⟨v, w, k, .inr ⟨rfl, rfl, rfl⟩, ⟨a2, b2⟩, z⟩
          · obtain ⟨v1, w1, k1, e1, e2⟩ := ex z1
            obtain ⟨_, _, ⟨v2, w2, k2, f1, f2, f3⟩, _⟩ := g6 a' ha b' hb d hd v1 w1 k1 e1 e2
            exact ⟨v2, w2, k2, .inl f1, f2, z2.trans f3⟩
        · rcases y3 with z | ⟨z1, z2⟩
          · exact ⟨v, w, k, .inr ⟨rfl, rfl, rfl⟩, ⟨a2, b2⟩, z⟩
          · obtain ⟨v1, w1, k1, e1, e2⟩ := ex z1
            obtain ⟨_, _, _, ⟨v2, w2, k2, f1, f2, f3⟩⟩ := g6 a' ha b' hb d hd v1 w1 k1 e1 e2
            exact ⟨v2, w2, k2, .inl f1, f2, z2.trans f3⟩
      · obtain ⟨x1, x2⟩ := r6 ((a' * 12 + b') * 4 + d) (fun d' hd' z => q ⟨by omega, by omega⟩)
        rw [x1, x2]
        have hG'' : G v' w' k' := by
          rcases hG' with z | ⟨z1, z2, z3⟩
          · exact z
          · rw [z1, z2] at hC'
            exact absurd ⟨(ua a' ha').mp hC'.1, (ub b' hb').mp hC'.2⟩ q
        obtain ⟨f1, f2, ⟨v2, w2, k2, e1, e2, e3⟩, ⟨v3, w3, k3, p1, p2, p3⟩⟩ := g6 a' ha' b' hb' d hd v' w' k' hG'' hC'
        exact ⟨f1, f2, ⟨v2, w2, k2, .inl e1, e2, e3⟩, ⟨v3, w3, k3, .inl p1, p2, p3⟩⟩
  by_cases q : cnt3 (wN σ) (fun v w k => Cab an σ a b v w ∧ G v w k) = 0
  · rw [q, if_pos (show nI 0 = 0 from rfl)]
    exact fin true ⟨fun _ => q, fun _ => rfl⟩
  · rw [if_neg (show ¬ nI _ = 0 from fun z => q (nI_inj (b := 0) (by omega) (by omega) z))]
    exact fin false ⟨fun z => absurd z (by decide), fun z => absurd z q⟩
end
theorem GC_N {na : Nat} {an lp ar : Nat → Int32} {σ : Ws} {M M' : Mem} (h : GC na an lp ar σ M) (e35 : M'.1 35 = M.1 35) (e48 : M'.1 48 = M.1 48) (e36 : M'.2.1 36 = M.2.1 36) : GC na an lp ar σ M' := by
  unfold GC at *
  rw [e35, e48, e36]
  exact h
theorem GI_c {na : Nat} {an lp ar : Nat → Int32} {σ : Ws} {G G' : Tri} {M : Mem} (h : GI na an lp ar σ G M) (e : ∀ v w k, G v w k ↔ G' v w k) : GI na an lp ar σ G' M := by
  have : G = G' := funext (fun v => funext (fun w => funext (fun k => propext (e v w k))))
  rw [← this]; exact h
theorem GI_M {na : Nat} {an lp ar : Nat → Int32} {σ : Ws} {G : Tri} {M M' : Mem} (h : GI na an lp ar σ G M) (e : ∀ c, 44 ≤ c → c ≤ 47 → M'.1 c = M.1 c) (e2 : M'.2.1 = M.2.1) : GI na an lp ar σ G M' := by
  unfold GI at *
  rw [e 44 (by omega) (by omega), e 45 (by omega) (by omega), e 46 (by omega) (by omega), e 47 (by omega) (by omega), e2]
  exact h
/-- the latest one below w of which P holds -/
def lat (P : Nat → Prop) (w : Nat) (x : Int32) : Prop := (x = -9 ∧ ∀ v, v < w → ¬ P v) ∨ ∃ v, v < w ∧ x = nI v ∧ P v ∧ ∀ u, v < u → u < w → ¬ P u
theorem lat_y {P : Nat → Prop} {w : Nat} (h : P w) : lat P (w + 1) (nI w) := .inr ⟨w, by omega, rfl, h, fun u a b => absurd a (by omega)⟩
theorem lat_n {P : Nat → Prop} {w : Nat} {x : Int32} (h : ¬ P w) (g : lat P w x) : lat P (w + 1) x := by
  rcases g with ⟨g1, g2⟩ | ⟨v, g1, g2, g3, g4⟩
  · refine .inl ⟨g1, fun v hv => ?_⟩
    by_cases z : v = w
    · rw [z]; exact h
    · exact g2 v (by omega)
  · refine .inr ⟨v, by omega, g2, g3, fun u a b => ?_⟩
    by_cases z : u = w
    · rw [z]; exact h
    · exact g4 u a (by omega)
theorem lat_d {P : Nat → Prop} {w : Nat} {x : Int32} (h : ¬ P w) (g : lat P (w + 1) x) : lat P w x := by
  rcases g with ⟨g1, g2⟩ | ⟨v, g1, g2, g3, g4⟩
  · exact .inl ⟨g1, fun v hv => g2 v (by omega)⟩
  · have : v ≠ w := fun z => h (by rw [← z]; exact g3)
    exact .inr ⟨v, by omega, g2, g3, fun u a b => g4 u a (by omega)⟩
theorem lat_c {P Q : Nat → Prop} {w : Nat} {x : Int32} (g : lat P w x) (h : ∀ v, v < w → (P v ↔ Q v)) : lat Q w x := by
  rcases g with ⟨g1, g2⟩ | ⟨v, g1, g2, g3, g4⟩
  · exact .inl ⟨g1, fun v hv z => g2 v hv ((h v hv).mpr z)⟩
  · exact .inr ⟨v, g1, g2, (h v g1).mp g3, fun u a b z => g4 u a b ((h u b).mpr z)⟩
