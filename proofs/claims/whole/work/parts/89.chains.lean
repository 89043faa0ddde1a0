/-! the pure half: chains of those who wrote and read -/
/-- link l reads spot s -/
def rd (c41 : Nat → Int32) (s l : Nat) : Prop := (l % 2 = 0 ∧ c41 (l / 2 * 3 + 1) = nI s) ∨ (l % 2 = 1 ∧ c41 (l / 2 * 3 + 2) = nI s ∧ c41 (l / 2 * 3 + 2) ≠ c41 (l / 2 * 3 + 1))
def RP (c41 : Nat → Int32) (s v : Nat) : Prop := c41 (v * 3 + 1) = nI s ∨ c41 (v * 3 + 2) = nI s
theorem rd_0 {c41 : Nat → Int32} {s v : Nat} : rd c41 s (2 * v) ↔ c41 (v * 3 + 1) = nI s := by
  unfold rd
  rw [show 2 * v / 2 = v by omega]
  exact ⟨fun z => by
    rcases z with z | z
    · exact z.2
    · omega, fun z => .inl ⟨by omega, z⟩⟩
theorem rd_1 {c41 : Nat → Int32} {s v : Nat} : rd c41 s (2 * v + 1) ↔ c41 (v * 3 + 2) = nI s ∧ c41 (v * 3 + 2) ≠ c41 (v * 3 + 1) := by
  unfold rd
  rw [show (2 * v + 1) / 2 = v by omega]
  exact ⟨fun z => by
    rcases z with z | z
    · omega
    · exact z.2, fun z => .inr ⟨by omega, z⟩⟩
theorem RP_rd {c41 : Nat → Int32} {s v : Nat} : RP c41 s v ↔ rd c41 s (2 * v) ∨ rd c41 s (2 * v + 1) := by
  rw [rd_0, rd_1]
  unfold RP
  constructor
  · intro z
    rcases z with z | z
    · exact .inl z
    · by_cases y : c41 (v * 3 + 1) = nI s
      · exact .inl y
      · exact .inr ⟨z, fun x => y (by rw [← x]; exact z)⟩
  · intro z
    rcases z with z | z
    · exact .inl z
    · exact .inr z.1
section
variable {na : Nat} {an lp ar : Nat → Int32} {σ : Ws} {w k : Nat}
theorem mw16 {P : Nat → Prop} (hw : w < wN σ) (hk : k < 3) :
    ∀ u f j x (G : Tri) M, u ≤ w → u < f → j + u ≤ w → GC na an lp ar σ M → GI na an lp ar σ G M → (∀ v, v < w → P v → lat P v (M.1 52 v)) → lat P u x → (∀ v, v < u → P v → ¬ G v w k) →
    ∃ M', f_X1_meetWriters_16 f (nI w) (nI k) x (nI j) M = some M' ∧ OnN M M' ∧ GI na an lp ar σ (fun v' w' k' => G v' w' k' ∨ v' < u ∧ P v' ∧ w' = w ∧ k' = k) M' := by
  intro u
  induction u using Nat.strongRecOn with
  | ind u ih =>
    intro f j x G M hu hf hj hC hI hL hx hG
    obtain ⟨f, rfl⟩ : ∃ z, f = z + 1 := ⟨f - 1, by omega⟩
    have hN := hC.2.1
    rw [f_X1_meetWriters_16, i_n400, if_neg (nI_ge (by omega) (by omega))]
    rcases hx with ⟨x1, x2⟩ | ⟨v, x1, x2, x3, x4⟩
    · rw [x1, if_pos (by decide)]
      exact ⟨M, rfl, OnN_r M, GI_c hI (fun v' w' k' => ⟨fun z => .inl z, fun z => by
        rcases z with z | ⟨z1, z2, _⟩
        · exact z
        · exact absurd z2 (x2 v' z1)⟩)⟩
    · obtain ⟨M1, a1, a2, a3⟩ := ndadd hC hI (v := v) (by omega) hw hk (hG v x1 x3)
      have e52 : M1.1 52 = M.1 52 := a2.1 52 (by decide) (by decide) (by decide) (by decide)
      rw [x2, if_neg (nI_pos (by omega)), a1, bm_s, ck_nI (by omega) (by omega), nI_clamp (by omega), nI_1]
      obtain ⟨M2, b1, b2, b3⟩ := ih v x1 f (j + 1) (M1.1 52 v) _ M1 (by omega) (by omega) (by omega) (GC_N hC (a2.1 35 (by decide) (by decide) (by decide) (by decide)) (a2.1 48 (by decide) (by decide) (by decide) (by decide)) (a2.2.1 36 (by decide) (by decide))) a3 (by rw [e52]; exact hL) (by rw [e52]; exact hL v (by omega) x3) (fun v' hv' hp z => by
        rcases z with z | ⟨z1, _⟩
        · exact hG v' (by omega) hp z
        · omega)
      refine ⟨M2, b1, OnN_t a2 b2, GI_c b3 (fun v' w' k' => ⟨fun z => ?_, fun z => ?_⟩)⟩
      · rcases z with (z | ⟨z1, z2, z3⟩) | ⟨z1, z2, z3⟩
        · exact .inl z
        · rw [z1]; exact .inr ⟨x1, x3, z2, z3⟩
        · exact .inr ⟨by omega, z2, z3⟩
      · rcases z with z | ⟨z1, z2, z3, z4⟩
        · exact .inl (.inl z)
        · rcases Nat.lt_trichotomy v' v with y | y | y
          · exact .inr ⟨y, z2, z3, z4⟩
          · exact .inl (.inr ⟨y, z3, z4⟩)
          · exact absurd z2 (x4 v' y z1)
theorem mr15 {c41 : Nat → Int32} {s : Nat} (hw : w < wN σ) :
    ∀ u f j x (G : Tri) M, u ≤ w → u < f → j + u ≤ w → GC na an lp ar σ M → GI na an lp ar σ G M → (∀ l, l < 2 * w → rd c41 s l → lat (rd c41 s) l (M.1 54 l)) → lat (rd c41 s) (2 * u) x → (∀ v, v < u → RP c41 s v → ¬ G v w 1) →
    ∃ M', f_X1_meetReaders_15 f (nI w) x (nI j) M = some M' ∧ OnN M M' ∧ GI na an lp ar σ (fun v' w' k' => G v' w' k' ∨ v' < u ∧ RP c41 s v' ∧ w' = w ∧ k' = 1) M' := by
  intro u
  induction u using Nat.strongRecOn with
  | ind u ih =>
    intro f j x G M hu hf hj hC hI hL hx hG
    obtain ⟨f, rfl⟩ : ∃ z, f = z + 1 := ⟨f - 1, by omega⟩
    have hN := hC.2.1
    rw [f_X1_meetReaders_15, i_n400, if_neg (nI_ge (by omega) (by omega)), nzI_2]
    rcases hx with ⟨x1, x2⟩ | ⟨l, x1, x2, x3, x4⟩
    · rw [x1, if_pos (by decide)]
      exact ⟨M, rfl, OnN_r M, GI_c hI (fun v' w' k' => ⟨fun z => .inl z, fun z => by
        rcases z with z | ⟨z1, z2, _⟩
        · exact z
        · rcases RP_rd.mp z2 with y | y
          · exact absurd y (x2 _ (by omega))
          · exact absurd y (x2 _ (by omega))⟩)⟩
    · obtain ⟨v, hv⟩ : ∃ v, v = l / 2 := ⟨_, rfl⟩
      have hrp : RP c41 s v := RP_rd.mpr (by
        rcases (show l = 2 * v ∨ l = 2 * v + 1 by omega) with z | z
        · rw [← z]; exact .inl x3
        · rw [← z]; exact .inr x3)
      obtain ⟨M1, a1, a2, a3⟩ := ndadd hC hI (v := v) (k := 1) (by omega) hw (by omega) (hG v (by omega) hrp)
      have e54 : M1.1 54 = M.1 54 := a2.1 54 (by decide) (by decide) (by decide) (by decide)
      have a1 : f_X1_addNeed M (nI v) (nI w) 1 = some M1 := a1
      rw [x2, if_neg (nI_pos (by omega)), i_n2, pk_div (by omega) (by omega) (by omega), ← hv, a1, bm_s, ck_nI (by omega) (by omega), nI_clamp (by omega), nI_1]
      have nl : lat (rd c41 s) (2 * v) (M1.1 54 l) := by
        rw [e54]
        have := hL l (by omega) x3
        rcases (show l = 2 * v ∨ l = 2 * v + 1 by omega) with z | z
        · rw [z] at this ⊢; exact this
        · rw [z] at this x3 ⊢
          refine lat_d (fun y => ?_) this
          rw [rd_0] at y
          rw [rd_1] at x3
          exact x3.2 (x3.1.trans y.symm)
      obtain ⟨M2, b1, b2, b3⟩ := ih v (by omega) f (j + 1) (M1.1 54 l) _ M1 (by omega) (by omega) (by omega) (GC_N hC (a2.1 35 (by decide) (by decide) (by decide) (by decide)) (a2.1 48 (by decide) (by decide) (by decide) (by decide)) (a2.2.1 36 (by decide) (by decide))) a3 (by rw [e54]; exact hL) nl (fun v' hv' hp z => by
        rcases z with z | ⟨z1, _⟩
        · exact hG v' (by omega) hp z
        · omega)
      refine ⟨M2, b1, OnN_t a2 b2, GI_c b3 (fun v' w' k' => ⟨fun z => ?_, fun z => ?_⟩)⟩
      · rcases z with (z | ⟨z1, z2, z3⟩) | ⟨z1, z2, z3⟩
        · exact .inl z
        · rw [z1]; exact .inr ⟨by omega, hrp, z2, z3⟩
        · exact .inr ⟨by omega, z2, z3⟩
      · rcases z with z | ⟨z1, z2, z3, z4⟩
        · exact .inl (.inl z)
        · rcases Nat.lt_trichotomy v' v with y | y | y
          · exact .inr ⟨y, z2, z3, z4⟩
          · exact .inl (.inr ⟨y, z3, z4⟩)
          · rcases RP_rd.mp z2 with q | q
            · exact absurd q (x4 _ (by omega) (by omega))
            · exact absurd q (x4 _ (by omega) (by omega))
end
def CWl (sp : Nat) (c41 c51 c52 : Nat → Int32) (w : Nat) : Prop := (∀ s, s < sp → lat (fun v => c41 (v * 3) = nI s) w (c51 s)) ∧ ∀ v, v < w → ∀ s, s < sp → c41 (v * 3) = nI s → lat (fun u => c41 (u * 3) = nI s) v (c52 v)
def CRl (sp : Nat) (c41 c53 c54 : Nat → Int32) (l : Nat) : Prop := (∀ s, s < sp → lat (rd c41 s) l (c53 s)) ∧ ∀ l', l' < l → ∀ s, s < sp → rd c41 s l' → lat (rd c41 s) l' (c54 l')
def On4 (M M' : Mem) : Prop := (∀ c, c ≠ 51 → c ≠ 52 → c ≠ 53 → c ≠ 54 → M'.1 c = M.1 c) ∧ M'.2 = M.2
theorem CR_skip {sp l : Nat} {c41 c53 c54 : Nat → Int32} (h : CRl sp c41 c53 c54 l) (hr : ∀ s, s < sp → ¬ rd c41 s l) : CRl sp c41 c53 c54 (l + 1) := by
  refine ⟨fun s hs => lat_n (hr s hs) (h.1 s hs), fun l' hl' s hs z => ?_⟩
  by_cases y : l' = l
  · rw [y] at z; exact absurd z (hr s hs)
  · exact h.2 l' (by omega) s hs z
theorem lkR {sp l : Nat} {c41 : Nat → Int32} {M : Mem} {x : Int32} (hsp : sp ≤ 1200) (hl : l < 800) (hx : x = -9 ∨ ∃ s, s < sp ∧ x = nI s) (hr : ∀ s, s < sp → (rd c41 s l ↔ x = nI s)) (h : CRl sp c41 (M.1 53) (M.1 54) l) :
    ∃ M', f_X1_linkReader M x (nI l) = some M' ∧ (∀ c, c ≠ 53 → c ≠ 54 → M'.1 c = M.1 c) ∧ M'.2 = M.2 ∧ CRl sp c41 (M'.1 53) (M'.1 54) (l + 1) := by
  unfold f_X1_linkReader
  rcases hx with q | ⟨s0, s1, s2⟩
  · rw [q, if_neg (by decide)]
    exact ⟨M, rfl, fun _ _ _ => rfl, rfl, CR_skip h (fun s hs z => by
      have := (hr s hs).mp z
      rw [q] at this
      exact nN9 (by omega) this.symm)⟩
  · rw [s2, if_pos (nI_pos' (by omega)), ck_nI (by omega) (by omega), ck_nI (by omega) (by omega), ck_nI (by omega) (by omega), nI_clamp (by omega), nI_clamp (by omega)]
    have rs : ∀ s, s < sp → (rd c41 s l ↔ s = s0) := fun s hs => by
      rw [hr s hs, s2]
      exact ⟨fun z => (nI_inj (by omega) (by omega) z).symm, fun z => by rw [z]⟩
    refine ⟨_, rfl, fun c a b => by rw [sI_n a, sI_n b], rfl, fun s hs => ?_, fun l' hl' s hs z => ?_⟩
    · rw [sI_e, sI_n (by decide)]
      by_cases y : s = s0
      · rw [y, pk_us]; exact lat_y ((rs s0 s1).mpr rfl)
      · rw [pk_un y]; exact lat_n (fun z => y ((rs s hs).mp z)) (h.1 s hs)
    · rw [sI_n (by decide), sI_e]
      by_cases y : l' = l
      · rw [y] at z ⊢
        rw [pk_us, (rs s hs).mp z]; exact h.1 s0 s1
      · rw [pk_un y]; exact h.2 l' (by omega) s hs z
theorem link_ok {n sp w : Nat} {T : Tc} {M : Mem} (hn : n ≤ 400) (hw : w < n) (hU : US n sp T (M.1 41)) (h1 : CWl sp (M.1 41) (M.1 51) (M.1 52) w) (h2 : CRl sp (M.1 41) (M.1 53) (M.1 54) (2 * w)) :
    ∃ M', f_X1_link M (nI w) = some M' ∧ On4 M M' ∧ CWl sp (M.1 41) (M'.1 51) (M'.1 52) (w + 1) ∧ CRl sp (M.1 41) (M'.1 53) (M'.1 54) (2 * (w + 1)) := by
  have hsp := hU.1
  have l35 : ∀ M1 : Mem, M1.1 41 = M.1 41 → M1.1 53 = M.1 53 → M1.1 54 = M.1 54 → ∃ M', f_X1_link_35 (nI w) M1 = some M' ∧ (∀ c, c ≠ 53 → c ≠ 54 → M'.1 c = M1.1 c) ∧ M'.2 = M1.2 ∧ CRl sp (M.1 41) (M'.1 53) (M'.1 54) (2 * (w + 1)) := by
    intro M1 e41 e53 e54
    unfold f_X1_link_35
    rw [i_n3, i_n1, i_n2, pk_mul, pk_mul, nI_add, nI_add, nI_add, ck_nI (by omega) (by omega), ck_nI (by omega) (by omega), nI_clamp (by omega), nI_clamp (by omega), e41]
    obtain ⟨M2, a1, a2, a3, a4⟩ := lkR (M := M1) (l := 2 * w) (c41 := M.1 41) (x := M.1 41 (w * 3 + 1)) hsp (by omega) (hU.2.1 w hw 1 (by omega)) (fun s hs => rd_0) (by rw [e53, e54]; exact h2)
    rw [Nat.mul_comm w 2, a1, bm_s]
    by_cases q : M.1 41 (w * 3 + 2) = M.1 41 (w * 3 + 1)
    · rw [if_pos q]
      exact ⟨M2, rfl, a2, a3, by rw [show 2 * (w + 1) = 2 * w + 1 + 1 by omega]; exact CR_skip a4 (fun s hs z => (rd_1.mp z).2 q)⟩
    · rw [if_neg q]
      obtain ⟨M3, b1, b2, b3, b4⟩ := lkR (M := M2) (l := 2 * w + 1) (c41 := M.1 41) (x := M.1 41 (w * 3 + 2)) hsp (by omega) (hU.2.1 w hw 2 (by omega)) (fun s hs => ⟨fun z => (rd_1.mp z).1, fun z => rd_1.mpr ⟨z, q⟩⟩) a4
      rw [b1, bm_s]
      exact ⟨M3, rfl, fun c x y => (b2 c x y).trans (a2 c x y), b3.trans a3, by rw [show 2 * (w + 1) = 2 * w + 1 + 1 by omega]; exact b4⟩
  unfold f_X1_link
  rw [i_n3, pk_mul, ck_nI (by omega) (by omega), nI_clamp (by omega)]
  rcases hU.2.1 w hw 0 (by omega) with q | ⟨s0, s1, s2⟩
  · rw [Nat.add_zero] at q
    rw [q, if_pos (by decide)]
    obtain ⟨M', a1, a2, a3, a4⟩ := l35 M rfl rfl rfl
    refine ⟨M', a1, ⟨fun c _ _ x y => a2 c x y, a3⟩, ⟨fun s hs => ?_, fun v hv s hs z => ?_⟩, a4⟩
    · rw [a2 51 (by decide) (by decide)]
      exact lat_n (fun z => nN9 (show s < 2 ^ 31 by omega) (z.symm.trans q)) (h1.1 s hs)
    · by_cases y : v = w
      · rw [y] at z; exact absurd (z.symm.trans q) (nN9 (by omega))
      · rw [a2 52 (by decide) (by decide)]; exact h1.2 v (by omega) s hs z
  · rw [Nat.add_zero] at s2
    rw [s2, if_neg (nI_pos (by omega)), ck_nI (by omega) (by omega), ck_nI (by omega) (by omega), ck_nI (by omega) (by omega), nI_clamp (by omega), nI_clamp (by omega)]
    obtain ⟨M', a1, a2, a3, a4⟩ := l35 (sI (sI M 52 w (M.1 51 s0)) 51 s0 (nI w)) (by rw [sI_n (by decide), sI_n (by decide)]) (by rw [sI_n (by decide), sI_n (by decide)]) (by rw [sI_n (by decide), sI_n (by decide)])
    refine ⟨M', a1, ⟨fun c b d x y => by rw [a2 c x y, sI_n b, sI_n d], a3⟩, ⟨fun s hs => ?_, fun v hv s hs z => ?_⟩, a4⟩
    · rw [a2 51 (by decide) (by decide), sI_e, sI_n (by decide)]
      by_cases y : s = s0
      · rw [y, pk_us]; exact lat_y s2
      · rw [pk_un y]; exact lat_n (fun z => y (nI_inj (by omega) (by omega) (z.symm.trans s2))) (h1.1 s hs)
    · rw [a2 52 (by decide) (by decide), sI_n (by decide), sI_e]
      by_cases y : v = w
      · rw [y] at z ⊢
        have : s = s0 := nI_inj (by omega) (by omega) (z.symm.trans s2)
        rw [pk_us, this]; exact h1.1 s0 s1
      · rw [pk_un y]; exact h1.2 v (by omega) s hs z
section
variable {na sp : Nat} {an lp ar : Nat → Int32} {σ : Ws} {T : Tc} {w : Nat} {M : Mem}
theorem mwr {j k : Nat} {G : Tri} (hU : US (wN σ) sp T (M.1 41)) (hw : w < wN σ) (hj : j < 3) (hk : k < 3) (hC : GC na an lp ar σ M) (hI : GI na an lp ar σ G M) (h1 : CWl sp (M.1 41) (M.1 51) (M.1 52) w) (hG : ∀ v, v < w → oneT T v 0 w j → ¬ G v w k) :
    ∃ M', f_X1_meetWriters M (M.1 41 (w * 3 + j)) (nI w) (nI k) = some M' ∧ OnN M M' ∧ GI na an lp ar σ (fun v' w' k' => G v' w' k' ∨ v' < w ∧ oneT T v' 0 w j ∧ w' = w ∧ k' = k) M' := by
  have hsp := hU.1
  have one : ∀ v, v < w → (oneT T v 0 w j ↔ ∃ s, s < sp ∧ M.1 41 (w * 3 + j) = nI s ∧ M.1 41 (v * 3) = nI s) := fun v hv => hU.2.2 v (by omega) 0 (by omega) w hw j hj
  unfold f_X1_meetWriters
  rcases hU.2.1 w hw j hj with q | ⟨s, s1, s2⟩
  · rw [q, if_neg (by decide)]
    refine ⟨M, rfl, OnN_r M, GI_c hI (fun v' w' k' => ⟨fun z => .inl z, fun z => ?_⟩)⟩
    rcases z with z | ⟨z1, z2, _⟩
    · exact z
    · obtain ⟨s, _, e, _⟩ := (one v' z1).mp z2
      exact absurd (e.symm.trans q) (nN9 (by have := (hU.1); omega))
  · have on' : ∀ v, v < w → (oneT T v 0 w j ↔ M.1 41 (v * 3) = nI s) := fun v hv => by
      rw [one v hv]
      exact ⟨fun ⟨s', t1, t2, t3⟩ => by rw [t3, ← t2, s2], fun z => ⟨s, s1, s2, z⟩⟩
    rw [s2, if_pos (nI_pos' (by omega)), ck_nI (by omega) (by omega), nI_clamp (by omega), i_n0]
    obtain ⟨M', a1, a2, a3⟩ := mw16 (P := fun v => M.1 41 (v * 3) = nI s) hw hk w 100000 0 (M.1 51 s) G M (by omega) (by have := hC.2.1; omega) (by omega) hC hI (fun v hv z => h1.2 v hv s s1 z) (h1.1 s s1) (fun v hv z => hG v hv ((on' v hv).mpr z))
    refine ⟨M', a1, a2, GI_c a3 (fun v' w' k' => ⟨fun z => ?_, fun z => ?_⟩)⟩
    · rcases z with z | ⟨z1, z2, z3⟩
      · exact .inl z
      · exact .inr ⟨z1, (on' v' z1).mpr z2, z3⟩
    · rcases z with z | ⟨z1, z2, z3⟩
      · exact .inl z
      · exact .inr ⟨z1, (on' v' z1).mp z2, z3⟩
theorem mrd {G : Tri} (hU : US (wN σ) sp T (M.1 41)) (hw : w < wN σ) (hC : GC na an lp ar σ M) (hI : GI na an lp ar σ G M) (h1 : CRl sp (M.1 41) (M.1 53) (M.1 54) (2 * w)) (hG : ∀ v, v < w → (oneT T v 1 w 0 ∨ oneT T v 2 w 0) → ¬ G v w 1) :
    ∃ M', f_X1_meetReaders M (M.1 41 (w * 3)) (nI w) = some M' ∧ OnN M M' ∧ GI na an lp ar σ (fun v' w' k' => G v' w' k' ∨ v' < w ∧ (oneT T v' 1 w 0 ∨ oneT T v' 2 w 0) ∧ w' = w ∧ k' = 1) M' := by
  have hsp := hU.1
  have one : ∀ v, v < w → ∀ k, k < 3 → (oneT T v k w 0 ↔ ∃ s, s < sp ∧ M.1 41 (w * 3) = nI s ∧ M.1 41 (v * 3 + k) = nI s) := fun v hv k hk => hU.2.2 v (by omega) k hk w hw 0 (by omega)
  unfold f_X1_meetReaders
  rcases hU.2.1 w hw 0 (by omega) with q | ⟨s, s1, s2⟩
  · rw [Nat.add_zero] at q
    rw [q, if_neg (by decide)]
    refine ⟨M, rfl, OnN_r M, GI_c hI (fun v' w' k' => ⟨fun z => .inl z, fun z => ?_⟩)⟩
    rcases z with z | ⟨z1, z2 | z2, _⟩
    · exact z
    · obtain ⟨s, _, e, _⟩ := (one v' z1 1 (by omega)).mp z2
      exact absurd (e.symm.trans q) (nN9 (by omega))
    · obtain ⟨s, _, e, _⟩ := (one v' z1 2 (by omega)).mp z2
      exact absurd (e.symm.trans q) (nN9 (by omega))
  · rw [Nat.add_zero] at s2
    have o1 : ∀ v, v < w → ∀ k, k < 3 → (oneT T v k w 0 ↔ M.1 41 (v * 3 + k) = nI s) := fun v hv k hk => by
      rw [one v hv k hk]
      exact ⟨fun ⟨s', t1, t2, t3⟩ => by rw [t3, ← t2, s2], fun z => ⟨s, s1, s2, z⟩⟩
    have on' : ∀ v, v < w → ((oneT T v 1 w 0 ∨ oneT T v 2 w 0) ↔ RP (M.1 41) s v) := fun v hv => by
      rw [o1 v hv 1 (by omega), o1 v hv 2 (by omega)]; exact Iff.rfl
    rw [s2, if_pos (nI_pos' (by omega)), ck_nI (by omega) (by omega), nI_clamp (by omega), i_n0]
    obtain ⟨M', a1, a2, a3⟩ := mr15 (c41 := M.1 41) (s := s) hw w 100000 0 (M.1 53 s) G M (by omega) (by have := hC.2.1; omega) (by omega) hC hI (fun l hl z => h1.2 l hl s s1 z) (h1.1 s s1) (fun v hv z => hG v hv ((on' v hv).mpr z))
    refine ⟨M', a1, a2, GI_c a3 (fun v' w' k' => ⟨fun z => ?_, fun z => ?_⟩)⟩
    · rcases z with z | ⟨z1, z2, z3⟩
      · exact .inl z
      · exact .inr ⟨z1, (on' v' z1).mpr z2, z3⟩
    · rcases z with z | ⟨z1, z2, z3⟩
      · exact .inl z
      · exact .inr ⟨z1, (on' v' z1).mp z2, z3⟩
def GO (T : Tc) (w : Nat) : Tri := fun v w' k => v < w' ∧ w' < w ∧ k < 3 ∧ need T v w' k
theorem gather_ok (hU : US (wN σ) sp T (M.1 41)) (hw : w < wN σ) (hC : GC na an lp ar σ M) (hI : GI na an lp ar σ (GO T w) M) (h1 : CWl sp (M.1 41) (M.1 51) (M.1 52) w) (h2 : CRl sp (M.1 41) (M.1 53) (M.1 54) (2 * w)) :
    ∃ M', f_X1_gather M (nI w) = some M' ∧ OnN M M' ∧ GI na an lp ar σ (GO T (w + 1)) M' := by
  have hN := hC.2.1
  have g0 : ∀ v k, ¬ GO T w v w k := fun v k z => by have := z.2.1; omega
  obtain ⟨M1, a1, a2, a3⟩ := mwr (j := 1) (k := 0) hU hw (by omega) (by omega) hC hI h1 (fun v hv _ => g0 v 0)
  have mv : ∀ {M1 : Mem}, OnN M M1 → (M1.1 41 = M.1 41 ∧ M1.1 51 = M.1 51 ∧ M1.1 52 = M.1 52 ∧ M1.1 53 = M.1 53 ∧ M1.1 54 = M.1 54) ∧ GC na an lp ar σ M1 := fun o => ⟨⟨o.1 41 (by decide) (by decide) (by decide) (by decide), o.1 51 (by decide) (by decide) (by decide) (by decide), o.1 52 (by decide) (by decide) (by decide) (by decide), o.1 53 (by decide) (by decide) (by decide) (by decide), o.1 54 (by decide) (by decide) (by decide) (by decide)⟩, GC_N hC (o.1 35 (by decide) (by decide) (by decide) (by decide)) (o.1 48 (by decide) (by decide) (by decide) (by decide)) (o.2.1 36 (by decide) (by decide))⟩
  have fin : ∀ {M1 : Mem}, OnN M M1 → GI na an lp ar σ (fun v' w' k' => GO T w v' w' k' ∨ v' < w ∧ need T v' w 0 ∧ w' = w ∧ k' = 0) M1 → ∃ M', f_X1_gather_62 (nI w) (M.1 41 (w * 3)) M1 = some M' ∧ OnN M M' ∧ GI na an lp ar σ (GO T (w + 1)) M' := by
    intro M1 o1 i1
    obtain ⟨⟨e41, e51, e52, e53, e54⟩, c1⟩ := mv o1
    obtain ⟨M2, b1, b2, b3⟩ := mrd (M := M1) (by rw [e41]; exact hU) hw c1 i1 (by rw [e41, e53, e54]; exact h2) (fun v hv _ z => by
      rcases z with z | z
      · exact g0 v 1 z
      · exact absurd z.2.2.2 (by decide))
    have o2 := OnN_t o1 b2
    obtain ⟨⟨f41, f51, f52, f53, f54⟩, c2⟩ := mv o2
    obtain ⟨M3, d1, d2, d3⟩ := mwr (M := M2) (j := 0) (k := 2) (by rw [f41]; exact hU) hw (by omega) (by omega) c2 b3 (by rw [f41, f51, f52]; exact h1) (fun v hv _ z => by
      rcases z with (z | z) | z
      · exact g0 v 2 z
      · exact absurd z.2.2.2 (by decide)
      · exact absurd z.2.2.2 (by decide))
    unfold f_X1_gather_62
    rw [e41] at b1
    rw [f41, Nat.add_zero] at d1
    have d1 : f_X1_meetWriters M2 (M.1 41 (w * 3)) (nI w) 2 = some M3 := d1
    rw [b1, bm_s, d1, bm_s]
    refine ⟨M3, rfl, OnN_t o2 d2, GI_c d3 (fun v' w' k' => ⟨fun z => ?_, fun z => ?_⟩)⟩
    · rcases z with ((z | ⟨z1, z2, z3, z4⟩) | ⟨z1, z2, z3, z4⟩) | ⟨z1, z2, z3, z4⟩
      · exact ⟨z.1, by have := z.2.1; omega, z.2.2⟩
      · rw [z3, z4]; exact ⟨z1, by omega, by omega, z2⟩
      · rw [z3, z4]; exact ⟨z1, by omega, by omega, z2⟩
      · rw [z3, z4]; exact ⟨z1, by omega, by omega, z2⟩
    · obtain ⟨z1, z2, z3, z4⟩ := z
      by_cases y : w' = w
      · subst y
        rcases (show k' = 0 ∨ k' = 1 ∨ k' = 2 by omega) with x | x | x
        · subst x; exact .inl (.inl (.inr ⟨z1, z4, rfl, rfl⟩))
        · subst x; exact .inl (.inr ⟨z1, z4, rfl, rfl⟩)
        · subst x; exact .inr ⟨z1, z4, rfl, rfl⟩
      · exact .inl (.inl (.inl ⟨z1, by omega, z3, z4⟩))
  have one : ∀ v, v < w → ∀ j, j < 3 → (oneT T v 0 w j ↔ ∃ s, s < sp ∧ M.1 41 (w * 3 + j) = nI s ∧ M.1 41 (v * 3) = nI s) := fun v hv j hj => hU.2.2 v (by omega) 0 (by omega) w hw j hj
  unfold f_X1_gather
  rw [i_n3, i_n1, i_n2, pk_mul, nI_add, nI_add, ck_nI (by omega) (by omega), ck_nI (by omega) (by omega), ck_nI (by omega) (by omega), nI_clamp (by omega), nI_clamp (by omega), nI_clamp (by omega)]
  have a1 : f_X1_meetWriters M (M.1 41 (w * 3 + 1)) (nI w) 0 = some M1 := a1
  rw [a1, bm_s]
  by_cases q : M.1 41 (w * 3 + 2) = M.1 41 (w * 3 + 1)
  · rw [if_pos q]
    refine fin a2 (GI_c a3 (fun v' w' k' => ⟨fun z => ?_, fun z => ?_⟩))
    · rcases z with z | ⟨z1, z2, z3⟩
      · exact .inl z
      · exact .inr ⟨z1, .inl z2, z3⟩
    · rcases z with z | ⟨z1, z2 | z2, z3⟩
      · exact .inl z
      · exact .inr ⟨z1, z2, z3⟩
      · refine .inr ⟨z1, ?_, z3⟩
        rw [one v' z1 2 (by omega)] at z2
        rw [q] at z2
        exact (one v' z1 1 (by omega)).mpr z2
  · rw [if_neg q]
    obtain ⟨⟨e41, e51, e52, e53, e54⟩, c1⟩ := mv a2
    obtain ⟨M2, b1, b2, b3⟩ := mwr (M := M1) (j := 2) (k := 0) (by rw [e41]; exact hU) hw (by omega) (by omega) c1 a3 (by rw [e41, e51, e52]; exact h1) (fun v hv o z => by
      rcases z with z | ⟨_, z, _⟩
      · exact g0 v 0 z
      · obtain ⟨s, _, t1, t2⟩ := (one v hv 2 (by omega)).mp o
        obtain ⟨s', _, u1, u2⟩ := (one v hv 1 (by omega)).mp z
        exact q (by rw [t1, ← t2, u2, u1]))
    rw [e41] at b1
    have b1 : f_X1_meetWriters M1 (M.1 41 (w * 3 + 2)) (nI w) 0 = some M2 := b1
    rw [b1, bm_s]
    refine fin (OnN_t a2 b2) (GI_c b3 (fun v' w' k' => ⟨fun z => ?_, fun z => ?_⟩))
    · rcases z with (z | ⟨z1, z2, z3⟩) | ⟨z1, z2, z3⟩
      · exact .inl z
      · exact .inr ⟨z1, .inl z2, z3⟩
      · exact .inr ⟨z1, .inr z2, z3⟩
    · rcases z with z | ⟨z1, z2 | z2, z3⟩
      · exact .inl (.inl z)
      · exact .inl (.inr ⟨z1, z2, z3⟩)
      · exact .inr ⟨z1, z2, z3⟩
def OnR (M M' : Mem) : Prop := (∀ c, (c < 44 ∨ 54 < c) → M'.1 c = M.1 c) ∧ (∀ c, c ≠ 49 → c ≠ 50 → M'.2.1 c = M.2.1 c) ∧ M'.2.2 = M.2.2
theorem nf21 (hU : US (wN σ) sp T (M.1 41)) :
    ∀ r w f M1, w + r = wN σ → r < f → OnR M M1 → M1.1 110 0 = nI (wN σ) → GC na an lp ar σ M1 → GI na an lp ar σ (GO T w) M1 → CWl sp (M1.1 41) (M1.1 51) (M1.1 52) w → CRl sp (M1.1 41) (M1.1 53) (M1.1 54) (2 * w) →
    ∃ M', f_X1_refresh_21 f (nI w) M1 = some (sI M' 116 0 (bI true)) ∧ OnR M M' ∧ GI na an lp ar σ (GO T (wN σ)) M' := by
  intro r
  induction r with
  | zero =>
    intro w f M1 hw hf hO h110 hC hI h1 h2
    obtain ⟨f, rfl⟩ : ∃ z, f = z + 1 := ⟨f - 1, by omega⟩
    have : w = wN σ := by omega
    subst this
    have := hC.2.1
    rw [f_X1_refresh_21, h110, if_pos (nI_le (by omega) (by omega))]
    exact ⟨M1, rfl, hO, hI⟩
  | succ r ih =>
    intro w f M1 hw hf hO h110 hC hI h1 h2
    obtain ⟨f, rfl⟩ : ∃ z, f = z + 1 := ⟨f - 1, by omega⟩
    have hN := hC.2.1
    have e41 : M1.1 41 = M.1 41 := hO.1 41 (by omega)
    obtain ⟨M2, a1, a2, a3⟩ := gather_ok (M := M1) (by rw [e41]; exact hU) (by omega) hC hI h1 h2
    have q : ∀ c, c ≠ 44 → c ≠ 45 → c ≠ 46 → c ≠ 47 → M2.1 c = M1.1 c := a2.1
    obtain ⟨M3, b1, b2, b3, b4⟩ := link_ok (M := M2) (T := T) (n := wN σ) (w := w) (sp := sp) hN (by omega) (by rw [q 41 (by decide) (by decide) (by decide) (by decide), e41]; exact hU) (by rw [q 41 (by decide) (by decide) (by decide) (by decide), q 51 (by decide) (by decide) (by decide) (by decide), q 52 (by decide) (by decide) (by decide) (by decide)]; exact h1) (by rw [q 41 (by decide) (by decide) (by decide) (by decide), q 53 (by decide) (by decide) (by decide) (by decide), q 54 (by decide) (by decide) (by decide) (by decide)]; exact h2)
    rw [f_X1_refresh_21, h110, if_neg (nI_ge (by omega) (by omega)), a1, bm_s, b1, bm_s, nI_1]
    have q3 : ∀ c, (c < 44 ∨ 54 < c) → M3.1 c = M1.1 c := fun c z => by rw [b2.1 c (by omega) (by omega) (by omega) (by omega), a2.1 c (by omega) (by omega) (by omega) (by omega)]
    have e41' : M3.1 41 = M2.1 41 := b2.1 41 (by decide) (by decide) (by decide) (by decide)
    refine ih (w + 1) f M3 (by omega) (by omega) ⟨fun c z => (q3 c z).trans (hO.1 c z), fun c x y => by rw [b2.2, a2.2.1 c x y]; exact hO.2.1 c x y, by rw [b2.2, a2.2.2]; exact hO.2.2⟩ (by rw [q3 110 (by omega)]; exact h110) (GC_N hC (q3 35 (by omega)) (by rw [b2.1 48 (by decide) (by decide) (by decide) (by decide), q 48 (by decide) (by decide) (by decide) (by decide)]) (by rw [b2.2, a2.2.1 36 (by decide) (by decide)])) (GI_M a3 (fun c x y => b2.1 c (by omega) (by omega) (by omega) (by omega)) (by rw [b2.2])) (by rw [e41']; exact b3) (by rw [e41']; exact b4)
end
