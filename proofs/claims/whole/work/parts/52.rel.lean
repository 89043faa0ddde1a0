/-! the pure half: how the two memories stand to each other -/
def R1 (ns : Nat) (c105 m101 : Int32) (c2 c3 c4 m2 m3 m4 : Nat → Int32) : Prop := c105 = nI ns ∧ m101 = nI ns ∧ 1 ≤ ns ∧ ns ≤ 80 ∧ c2 = m2 ∧ c3 = m3 ∧ c4 = m4
def TW (ns nn : Nat) (kd pa lp fi se : Nat → Int32) : Prop := ∀ k, k < nn →
  (kd k = 0 ∨ kd k = 1 ∨ kd k = 2 ∨ kd k = 3) ∧
  (pa k = -9 ∨ (pa k = nI (cN_ (pa k)) ∧ cN_ (pa k) < k ∧ kd (cN_ (pa k)) ≠ 3)) ∧
  (lp k = nI (cN_ (lp k)) ∧ cN_ (lp k) ≤ 4 ∧ (Lq kd k → cN_ (lp k) < 4)) ∧
  (pa k = -9 → cN_ (lp k) = 0) ∧
  (pa k ≠ -9 → Lq kd (cN_ (pa k)) → cN_ (lp k) = cN_ (lp (cN_ (pa k))) + 1) ∧
  (pa k ≠ -9 → ¬ Lq kd (cN_ (pa k)) → cN_ (lp k) = cN_ (lp (cN_ (pa k)))) ∧
  (kd k ≠ 3 → ∃ s, s < ns ∧ fi k = nI s) ∧ (Lq kd k → ∃ s, s < ns ∧ se k = nI s) ∧ (kd k = 2 → ∃ m, m ≤ 1000 ∧ se k = nI m)
def cv (n k : Nat) : Int32 := if k < n then nI k else -9
/-- the parent that node p is; 40 is the top -/
def pv (p : Nat) : Int32 := if p = 40 then -9 else nI p
def LW (nn : Nat) (pa fI_ lI_ nt : Nat → Int32) : Prop :=
  (∀ p, p < nn ∨ p = 40 → fI_ p = cv nn (nx pa (pv p) nn 0)) ∧
  (∀ k, k < nn → nt k = cv nn (nx pa (pa k) (nn - (k + 1)) (k + 1))) ∧
  (∀ p, p < nn ∨ p = 40 → (lI_ p = -9 ∧ ∀ k, k < nn → pa k ≠ pv p) ∨ (∃ k, k < nn ∧ lI_ p = nI k ∧ pa k = pv p ∧ ∀ j, k < j → j < nn → pa j ≠ pv p))
def AW (nn : Nat) (kd pa lp ar : Nat → Int32) : Prop := ∀ k, k < nn → ∀ d, d < cN_ (lp k) →
  (d + 1 = cN_ (lp k) ∧ Lq kd (cN_ (pa k)) → ar (k * 4 + d) = pa k) ∧ (¬ (d + 1 = cN_ (lp k) ∧ Lq kd (cN_ (pa k))) → ar (k * 4 + d) = ar (cN_ (pa k) * 4 + d))
def PW (nn : Nat) (pa lp pl : Nat → Int32) : Prop := ∀ k, k < nn → ∀ d, d ≤ cN_ (lp k) →
  (pa k ≠ -9 ∧ d ≤ cN_ (lp (cN_ (pa k))) → pl (k * 5 + d) = pl (cN_ (pa k) * 5 + d)) ∧ (¬ (pa k ≠ -9 ∧ d ≤ cN_ (lp (cN_ (pa k)))) → pl (k * 5 + d) = nI k)
def CW (nn na : Nat) (kd an ao : Nat → Int32) : Prop :=
  (∀ a, a < na → ∃ k, k < nn ∧ an a = nI k ∧ kd k = 3 ∧ ao k = nI a) ∧ (∀ k, k < nn → kd k = 3 → ∃ a, a < na ∧ ao k = nI a ∧ an a = nI k) ∧ (∀ a b, a < b → b < na → cN_ (an a) < cN_ (an b))
def R2 (ns nn na : Nat) (c106 c107 m102 m103 : Int32) (fI_ lI_ nt kd pa lp fi se ar pl an ao m6 m7 m8 m9 m10 : Nat → Int32) : Prop :=
  c106 = nI nn ∧ m102 = nI nn ∧ nn ≤ 40 ∧ c107 = nI na ∧ m103 = nI na ∧ na ≤ 12 ∧ (kd = m6 ∧ pa = m7 ∧ lp = m8 ∧ fi = m9 ∧ se = m10) ∧
  TW ns nn kd pa lp fi se ∧ LW nn pa fI_ lI_ nt ∧ AW nn kd pa lp ar ∧ PW nn pa lp pl ∧ CW nn na kd an ao
def R3 (ns na nr : Nat) (an c18 c19 c20 m11 m12 m13 : Nat → Int32) : Prop :=
  (∀ a, a < na → ∀ w, w < 3 → c18 (a * 3 + w) = m11 (3 * cN_ (an a) + w) ∧
    (c18 (a * 3 + w) = -9 ∨ ((∃ r, r < nr ∧ c18 (a * 3 + w) = nI r) ∧ (∃ s, s < ns ∧ c19 (a * 3 + w) = nI s) ∧ (∃ s, s < ns ∧ c20 (a * 3 + w) = nI s) ∧ c19 (a * 3 + w) = m12 (3 * cN_ (an a) + w) ∧ c20 (a * 3 + w) = m13 (3 * cN_ (an a) + w)))) ∧
  (∀ j, na * 3 ≤ j → j < 36 → c18 j = -9)
def R4 (nn : Nat) (st it by_ m14 m15 m16 m17 : Nat → Int32) : Prop :=
  st = m14 ∧ (∀ k, nn ≤ k → st k = 0) ∧ (∀ j, vp_nar .byte (by_ j) = by_ j) ∧
  ∀ k, k < nn → (st k = 0 ∨ (st k = 1 ∧ it k = m15 k ∧ ∃ j, j < nn ∧ it k = nI j) ∨ (st k = 2 ∧ it k = m16 k ∧ ∃ L, L ≤ 12 ∧ it k = nI L ∧ ∀ j, j < L → by_ (k * 12 + j) = m17 (12 * k + j)))
def R5 (nr : Nat) (c100 m104 : Int32) (c25 : Nat → Option Nat) (dI : Nat → Nat → Int32) (dL : Nat → Nat → Int64) (dN : Nat → Nat) (m19 m20 m21 : Nat → Int32) (m22 : Nat → Int64) : Prop :=
  c100 = nI nr ∧ m104 = nI nr ∧ nr ≤ 8 ∧ dN 0 = nr ∧ (∀ r, r < nr → c25 r = some r) ∧ (∀ r, nr ≤ r → c25 r = none) ∧
  ∀ r, r < nr → dN (r + 2) ≤ 20 ∧ m20 r = nI (dN (r + 2)) ∧ dI (4 * r) 0 = m19 r ∧
    ∀ i, i < dN (r + 2) → (dI (4 * r + 1) i = -1 ∧ m21 (20 * r + i) = -9) ∨ (∃ L, L ≤ 20 ∧ dI (4 * r + 1) i = nI L ∧ m21 (20 * r + i) = nI L ∧ ∀ j, j < L → dL r (i * 20 + j) = m22 (400 * r + 20 * i + j))
def R6 (c101 m105 : Int64) (c102 m100 c103 c104 : Int32) (c67 m1 m40 : Nat → Int32) (c68 : Nat → Int64) : Prop :=
  c101 = m105 ∧ c102 = m100 ∧ c67 = m1 ∧ c103 = m40 0 ∧ c104 = m40 1 ∧ (c104 = -9 → ∀ k, k < 4 → m40 (2 + k) = -9) ∧ (c104 ≠ -9 → ∀ k, k < 4 → m40 (2 + k) = (100000 + c68 k).toInt32)
def RW (q l : Nat) (g : Nat → Nat → Int32) : Prop :=
  1 ≤ q ∧ q ≤ 16 ∧ g 0 6 = -9 ∧ (∀ d, d < l → ∃ i, i < q ∧ g i 6 = nI d) ∧
  (∀ i, i < q → ∃ w, 1 ≤ w ∧ w ≤ 400 ∧ g i 5 = nI w) ∧ (∀ i, i < q → ∀ c, c < 5 → -100000 ≤ (g i c).toInt ∧ (g i c).toInt ≤ 100000) ∧ (∀ i, i < q → g i 6 = -9 ∨ ∃ d, d < l ∧ g i 6 = nI d)
def OW (na : Nat) (an lp rc cc rm cm : Nat → Int32) : Prop := ∀ a, a < na → ∃ q, rc a = nI q ∧ rm (cN_ (an a)) = nI q ∧
  (∀ i, i < q → ∀ c, c < 7 → cc ((a * 16 + i) * 7 + c) = cm (7 * (16 * cN_ (an a) + i) + c)) ∧ RW q (cN_ (lp (cN_ (an a)))) (fun i c => cm (7 * (16 * cN_ (an a) + i) + c))
def KW (na : Nat) (an lp : Nat → Int32) (nk o : Nat) (c33 : Nat → Option Nat) (nK : Nat) (dI : Nat → Nat → Int32) (m32 m33 : Nat → Int32) : Prop :=
  (∀ t, t < nk → ∃ j, c33 ((o + t) % 20) = some j ∧ OW na an lp (dI (4 * j + 3)) (dI (4 * j + 2)) (fun k => m32 (40 * t + k)) (fun k => m33 (4480 * t + k))) ∧
  (∀ s j, c33 s = some j → j < nK) ∧ (∀ s s' j, c33 s = some j → c33 s' = some j → s = s')
def R7 (na nk : Nat) (an lp c28 c29 m30 m31 : Nat → Int32) (c108 c109 m109 : Int32) (c33 : Nat → Option Nat) (nK : Nat) (dI : Nat → Nat → Int32) (m32 m33 : Nat → Int32) : Prop :=
  OW na an lp c29 c28 m30 m31 ∧ c109 = nI nk ∧ m109 = nI nk ∧ nk ≤ 20 ∧ ∃ o, o < 20 ∧ c108 = nI o ∧ KW na an lp nk o c33 nK dI m32 m33
/-- the visits as the class keeps them -/
def VW (na : Nat) (an : Nat → Int32) (σ : Ws) (c110 : Int32) (c35 : Nat → Int32) (c36 : Nat → Int64) : Prop :=
  c110 = nI (wN σ) ∧ wN σ ≤ 400 ∧ ∀ v, v < wN σ → (∃ a, a < na ∧ c35 v = nI a ∧ an a = nI (wA σ v)) ∧ ∀ d, d < 4 → c36 (v * 4 + d) = wL σ (v * 4 + d)
/-- the touches -/
def UW (σ : Ws) (T : Tc) (c114 : Int32) (c39 c40 : Nat → Int64) (c41 : Nat → Int32) : Prop :=
  ∃ sp, c114 = nI sp ∧ sp ≤ 1200 ∧ (∀ v, v < wN σ → ∀ w, w < 3 → (T.1 v w = -9 → c41 (v * 3 + w) = -9) ∧ (T.1 v w ≠ -9 → (∃ s, s < sp ∧ c41 (v * 3 + w) = nI s) ∧ c39 (v * 3 + w) = T.2.1 v w ∧ c40 (v * 3 + w) = T.2.2 v w)) ∧
  (∀ v, v < wN σ → ∀ w, w < 3 → ∀ v', v' < wN σ → ∀ w', w' < 3 → T.1 v w ≠ -9 → T.1 v' w' ≠ -9 → (c41 (v * 3 + w) = c41 (v' * 3 + w') ↔ oneT T v w v' w'))
/-- how many loops are around both, the depth of a need -/
def comO (lp ar : Nat → Int32) (m n : Nat) : Nat → Nat → Nat
  | 0, d => d
  | k + 1, d => if d < cN_ (lp m) ∧ d < cN_ (lp n) ∧ ar (m * 4 + d) = ar (n * 4 + d) then comO lp ar m n k (d + 1) else d
def dpO (L : Nat → Int64) (v w : Nat) (com : Nat) : Nat → Nat → Nat
  | 0, _ => 4
  | k + 1, d => if d < com then (if L (v * 4 + d) = L (w * 4 + d) then dpO L v w com k (d + 1) else d) else 4
def depO (lp ar : Nat → Int32) (σ : Ws) (v w : Nat) : Nat := dpO (wL σ) v w (comO lp ar (wA σ v) (wA σ w) 4 0) 4 0
def NW (na : Nat) (an lp ar : Nat → Int32) (σ : Ws) (T : Tc) (c44 c45 c46 c47 : Nat → Int32) (c49 c50 : Nat → Int64) : Prop :=
  (∀ a, a < na → ∀ b, b < na → ∀ k, k < 3 → c44 ((a * 12 + b) * 3 + k) = nI (sm (fun w => sm (fun v => ind (an a = nI (wA σ v) ∧ an b = nI (wA σ w) ∧ need T v w k)) w) (wN σ))) ∧
  (∀ d, d < 5 → c45 d = nI (sm (fun w => sm (fun v => sm (fun k => ind (need T v w k ∧ depO lp ar σ v w = d)) 3) w) (wN σ))) ∧
  (∀ a, a < na → ∀ b, b < na → c46 (a * 12 + b) = nI (sm (fun w => sm (fun v => sm (fun k => ind (an a = nI (wA σ v) ∧ an b = nI (wA σ w) ∧ need T v w k)) 3) w) (wN σ))) ∧
  (∀ a, a < na → ∀ b, b < na → ∀ d, d < 5 → c47 ((a * 12 + b) * 5 + d) = nI (sm (fun w => sm (fun v => sm (fun k => ind (an a = nI (wA σ v) ∧ an b = nI (wA σ w) ∧ need T v w k ∧ depO lp ar σ v w = d)) 3) w) (wN σ))) ∧
  (∀ a, a < na → ∀ b, b < na → ∀ d, d < comO lp ar (cN_ (an a)) (cN_ (an b)) 4 0 → ∀ w, w < wN σ → ∀ v, v < w → ∀ k, k < 3 → an a = nI (wA σ v) → an b = nI (wA σ w) → need T v w k →
    (c49 ((a * 12 + b) * 4 + d) ≤ wL σ (w * 4 + d) - wL σ (v * 4 + d) ∧ wL σ (w * 4 + d) - wL σ (v * 4 + d) ≤ c50 ((a * 12 + b) * 4 + d) ∧
      (∃ w' v' k', w' < wN σ ∧ v' < w' ∧ k' < 3 ∧ an a = nI (wA σ v') ∧ an b = nI (wA σ w') ∧ need T v' w' k' ∧ c49 ((a * 12 + b) * 4 + d) = wL σ (w' * 4 + d) - wL σ (v' * 4 + d)) ∧
      (∃ w' v' k', w' < wN σ ∧ v' < w' ∧ k' < 3 ∧ an a = nI (wA σ v') ∧ an b = nI (wA σ w') ∧ need T v' w' k' ∧ c50 ((a * 12 + b) * 4 + d) = wL σ (w' * 4 + d) - wL σ (v' * 4 + d))))
/-- a row of visits that stands in the new order, and where each stands in it -/
def QW (n : Nat) (ah : Nat → Nat → Prop) (sq tn : Nat → Int32) : Prop :=
  (∀ i, i < n → sq i = nI (cN_ (sq i)) ∧ cN_ (sq i) < n ∧ tn (cN_ (sq i)) = nI i) ∧ (∀ v, v < n → tn v = nI (cN_ (tn v)) ∧ cN_ (tn v) < n ∧ sq (cN_ (tn v)) = nI v) ∧ (∀ i j, i < j → j < n → ah (cN_ (sq i)) (cN_ (sq j)))
def bad (ah : Nat → Nat → Prop) (T : Tc) (v w k : Nat) : Prop := v < w ∧ ah w v ∧ k < 3 ∧ need T v w k
def JW (n : Nat) (ah : Nat → Nat → Prop) (T : Tc) (c118 c119 c120 : Int32) : Prop :=
  (c119 = -9 ∧ ∀ w, w < n → ∀ v k, ¬ bad ah T v w k) ∨
  (∃ w v k, w < n ∧ c119 = nI w ∧ c118 = nI v ∧ c120 = nI k ∧ bad ah T v w k ∧ (∀ w', w' < w → ∀ v' k', ¬ bad ah T v' w' k') ∧ (∀ v', v' < v → ∀ k', ¬ bad ah T v' w k') ∧ (∀ k', k' < k → ¬ bad ah T v w k'))
def BW (σ : Ws) (sq : Nat → Nat) (c122 : Int32) (c62 : Nat → Int32) : Prop :=
  ∃ L, c122 = nI L ∧ L ≤ wN σ ∧ c62 0 = nI 0 ∧ c62 L = nI (wN σ) ∧ ∀ l, l < L → ∃ s e, c62 l = nI s ∧ c62 (l + 1) = nI e ∧ s < e ∧ e ≤ wN σ ∧ (∀ i, s < i → i < e → goO σ sq s i) ∧ (e < wN σ → ¬ goO σ sq s e)
def pgM (nn : Nat) (M : Mem) : Pg := (nn, M.1 2, M.1 4, M.1 6, M.1 7, M.1 8, M.1 9, M.1 10)
def R8 (na : Nat) (an lp ar : Nat → Int32) (P : Pg) (aA aR aP rm cm : Nat → Int32) (c110 c112 c113 c114 c115 c116 c117 c118 c119 c120 c121 c122 c123 : Int32) (c35 : Nat → Int32) (c36 c39 c40 : Nat → Int64) (c41 c44 c45 c46 c47 : Nat → Int32) (c49 c50 : Nat → Int64) (c57 c59 c62 : Nat → Int32) : Prop :=
  (zb c113 = true → zb c112 = wS (wkA P) ∧ (wS (wkA P) = false → VW na an (wkA P) c110 c35 c36)) ∧
  (zb c115 = true → zb c113 = true ∧ zb c112 = false ∧ UW (wkA P) (tcA (pSz P) (pTm P) aA aR aP (wkA P)) c114 c39 c40 c41) ∧
  (zb c116 = true → zb c115 = true ∧ NW na an lp ar (wkA P) (tcA (pSz P) (pTm P) aA aR aP (wkA P)) c44 c45 c46 c47 c49 c50) ∧
  (zb c117 = true → zb c113 = true ∧ zb c112 = false ∧ QW (wN (wkA P)) (ahd rm cm (wkA P)) c57 c59) ∧
  (zb c121 = true → zb c117 = true ∧ zb c115 = true ∧ JW (wN (wkA P)) (ahd rm cm (wkA P)) (tcA (pSz P) (pTm P) aA aR aP (wkA P)) c118 c119 c120) ∧
  (zb c123 = true → zb c117 = true ∧ BW (wkA P) (fun i => cN_ (c57 i)) c122 c62)
def RelN (ns nn na nr nk : Nat) (Mc Mm : Mem) : Prop :=
  R1 ns (Mc.1 105 0) (Mm.1 101 0) (Mc.1 2) (Mc.1 3) (Mc.1 4) (Mm.1 2) (Mm.1 3) (Mm.1 4) ∧
  R2 ns nn na (Mc.1 106 0) (Mc.1 107 0) (Mm.1 102 0) (Mm.1 103 0) (Mc.1 6) (Mc.1 7) (Mc.1 8) (Mc.1 9) (Mc.1 10) (Mc.1 11) (Mc.1 12) (Mc.1 13) (Mc.1 14) (Mc.1 15) (Mc.1 16) (Mc.1 17) (Mm.1 6) (Mm.1 7) (Mm.1 8) (Mm.1 9) (Mm.1 10) ∧
  R3 ns na nr (Mc.1 16) (Mc.1 18) (Mc.1 19) (Mc.1 20) (Mm.1 11) (Mm.1 12) (Mm.1 13) ∧
  R4 nn (Mc.1 22) (Mc.1 23) (Mc.1 24) (Mm.1 14) (Mm.1 15) (Mm.1 16) (Mm.1 17) ∧
  R5 nr (Mc.1 100 0) (Mm.1 104 0) (Mc.2.2.1 25) Mc.2.2.2.1 Mc.2.2.2.2.1 Mc.2.2.2.2.2 (Mm.1 19) (Mm.1 20) (Mm.1 21) (Mm.2.1 22) ∧
  R6 (Mc.2.1 101 0) (Mm.2.1 105 0) (Mc.1 102 0) (Mm.1 100 0) (Mc.1 103 0) (Mc.1 104 0) (Mc.1 67) (Mm.1 1) (Mm.1 40) (Mc.2.1 68) ∧
  R7 na nk (Mc.1 16) (Mc.1 11) (Mc.1 28) (Mc.1 29) (Mm.1 30) (Mm.1 31) (Mc.1 108 0) (Mc.1 109 0) (Mm.1 109 0) (Mc.2.2.1 33) (Mc.2.2.2.2.2 1) Mc.2.2.2.1 (Mm.1 32) (Mm.1 33) ∧
  R8 na (Mc.1 16) (Mc.1 11) (Mc.1 14) (pgM nn Mm) (Mm.1 11) (Mm.1 12) (Mm.1 13) (Mm.1 30) (Mm.1 31) (Mc.1 110 0) (Mc.1 112 0) (Mc.1 113 0) (Mc.1 114 0) (Mc.1 115 0) (Mc.1 116 0) (Mc.1 117 0) (Mc.1 118 0) (Mc.1 119 0) (Mc.1 120 0) (Mc.1 121 0) (Mc.1 122 0) (Mc.1 123 0)
    (Mc.1 35) (Mc.2.1 36) (Mc.2.1 39) (Mc.2.1 40) (Mc.1 41) (Mc.1 44) (Mc.1 45) (Mc.1 46) (Mc.1 47) (Mc.2.1 49) (Mc.2.1 50) (Mc.1 57) (Mc.1 59) (Mc.1 62)
def Rel (Mc Mm : Mem) : Prop := ∃ ns nn na nr nk : Nat, RelN ns nn na nr nk Mc Mm
