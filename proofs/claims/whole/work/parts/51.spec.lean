/-! the pure half: what the calls mean -/
/-- what a SUM is worth -/
def val (sz tm : Nat → Int32) (h : Nat → Int64) (s : Nat) : Int64 :=
  ((((((((tm (s * 8)).toInt64 + (tm (s * 8 + 1)).toInt64 * (sz 0).toInt64) + (tm (s * 8 + 2)).toInt64 * (sz 1).toInt64) + (tm (s * 8 + 3)).toInt64 * (sz 2).toInt64)
    + (tm (s * 8 + 4)).toInt64 * h 0) + (tm (s * 8 + 5)).toInt64 * h 1) + (tm (s * 8 + 6)).toInt64 * h 2) + (tm (s * 8 + 7)).toInt64 * h 3)
/-- the program: how many nodes, sizes, terms, kinds, parents, loops around, first, second -/
abbrev Pg : Type := Nat × (Nat → Int32) × (Nat → Int32) × (Nat → Int32) × (Nat → Int32) × (Nat → Int32) × (Nat → Int32) × (Nat → Int32)
abbrev pSz (P : Pg) : Nat → Int32 := P.2.1
abbrev pTm (P : Pg) : Nat → Int32 := P.2.2.1
abbrev pKd (P : Pg) : Nat → Int32 := P.2.2.2.1
abbrev pPa (P : Pg) : Nat → Int32 := P.2.2.2.2.1
abbrev pLp (P : Pg) : Nat → Int32 := P.2.2.2.2.2.1
abbrev pFi (P : Pg) : Nat → Int32 := P.2.2.2.2.2.2.1
abbrev pSe (P : Pg) : Nat → Int32 := P.2.2.2.2.2.2.2
/-- visits so far, their acts, their letters (four a visit), the letters here, turns of loops, spent -/
abbrev Ws : Type := Nat × (Nat → Nat) × (Nat → Int64) × (Nat → Int64) × Nat × Bool
abbrev wN (σ : Ws) : Nat := σ.1
abbrev wA (σ : Ws) : Nat → Nat := σ.2.1
abbrev wL (σ : Ws) : Nat → Int64 := σ.2.2.1
abbrev wH (σ : Ws) : Nat → Int64 := σ.2.2.2.1
abbrev wT (σ : Ws) : Nat := σ.2.2.2.2.1
abbrev wS (σ : Ws) : Bool := σ.2.2.2.2.2
def seeW (m : Nat) (σ : Ws) : Ws := if wN σ < 400 then (wN σ + 1, va_up (wA σ) (wN σ) m, va_cpy (wH σ) (wL σ) 0 (wN σ * 4) 4, wH σ, wT σ, wS σ) else (wN σ, wA σ, wL σ, wH σ, wT σ, true)
def Lq (kd : Nat → Int32) (k : Nat) : Prop := kd k = 0 ∨ kd k = 1
/-- the next node in p from c on, of the m nodes there -/
def nx (pa : Nat → Int32) (p : Int32) : Nat → Nat → Nat
  | 0, c => c
  | m + 1, c => if pa c = p then c else nx pa p m (c + 1)
def cN_ (x : Int32) : Nat := x.toNatClampNeg
/-- a test lets pass -/
def pasW (v : Int64) (m : Int32) : Bool := if 0 < m then decide (v - v / m.toInt64 * m.toInt64 = 0) else decide (¬ v < 0)
/-- the turns of loop k, from the i-th on -/
def wkLp (P : Pg) (go : Nat → Ws → Ws) (k : Nat) (fr to : Int64) : Nat → Nat → Ws → Ws
  | 0, _, σ => σ
  | m + 1, i, σ => if to < fr + lN i then σ else if wS σ = true then σ
      else if wT σ + 1 ≤ 4000 then wkLp P go k fr to m (i + 1) (go k (wN σ, wA σ, wL σ, vp_updL (wH σ) (cN_ (pLp P k)) (fr + lN i), wT σ + 1, wS σ))
      else wkLp P go k fr to m (i + 1) (wN σ, wA σ, wL σ, wH σ, wT σ + 1, true)
def clsW (P : Pg) (k : Nat) (σ : Ws) : Ws := (wN σ, wA σ, wL σ, vp_updL (wH σ) (cN_ (pLp P k)) 0, wT σ, wS σ)
def vaW (P : Pg) (x : Int32) (σ : Ws) : Int64 := val (pSz P) (pTm P) (wH σ) (cN_ x)
def wkNd (P : Pg) (go : Nat → Ws → Ws) (k : Nat) (σ : Ws) : Ws :=
  if pKd P k = 3 then seeW k σ
  else if pKd P k = 0 ∨ pKd P k = 1 then clsW P k (wkLp P go k (vaW P (pFi P k) σ) (vaW P (pSe P k) σ) 4001 0 σ)
  else if pasW (vaW P (pFi P k) σ) (pSe P k) = true then go k σ else σ
def wkSb (P : Pg) (go : Nat → Ws → Ws) (p : Int32) : Nat → Nat → Ws → Ws
  | 0, _, σ => σ
  | m + 1, c, σ => if wS σ = true then σ else if nx (pPa P) p (P.1 - c) c < P.1 then wkSb P go p m (nx (pPa P) p (P.1 - c) c + 1) (wkNd P go (nx (pPa P) p (P.1 - c) c) σ) else σ
def wkW (P : Pg) : Nat → Int32 → Ws → Ws
  | 0, _, σ => σ
  | f + 1, p, σ => wkSb P (fun k => wkW P f (nI k)) p 40 0 σ
def wkI : Ws := (0, fun _ => 0, fun _ => 0, fun _ => 0, 0, false)
/-- all visits of the program -/
def wkA (P : Pg) : Ws := wkW P 45 (-9) wkI
/-- what visits touch: the array (or -9), the row, the place, by visit and aim -/
abbrev Tc : Type := (Nat → Nat → Int32) × (Nat → Nat → Int64) × (Nat → Nat → Int64)
def tcA (sz tm aA aR aP : Nat → Int32) (σ : Ws) : Tc :=
  (fun v w => if v < wN σ ∧ w < 3 then aA (3 * wA σ v + w) else -9,
   fun v w => if v < wN σ ∧ w < 3 ∧ aA (3 * wA σ v + w) ≠ -9 then val sz tm (fun d => wL σ (v * 4 + d)) (cN_ (aR (3 * wA σ v + w))) else 0,
   fun v w => if v < wN σ ∧ w < 3 ∧ aA (3 * wA σ v + w) ≠ -9 then val sz tm (fun d => wL σ (v * 4 + d)) (cN_ (aP (3 * wA σ v + w))) else 0)
def oneT (T : Tc) (v a w b : Nat) : Prop := T.1 v a ≠ -9 ∧ T.1 w b ≠ -9 ∧ T.1 v a = T.1 w b ∧ T.2.1 v a = T.2.1 w b ∧ T.2.2 v a = T.2.2 w b
def need (T : Tc) (v w k : Nat) : Prop := if k = 2 then oneT T v 0 w 0 else if k = 0 then oneT T v 0 w 1 ∨ oneT T v 0 w 2 else oneT T v 1 w 0 ∨ oneT T v 2 w 0
/-- sums -/
def sm (f : Nat → Nat) : Nat → Nat
  | 0 => 0
  | n + 1 => sm f n + f n
noncomputable def ind (p : Prop) : Nat := @ite Nat p (Classical.propDecidable p) 1 0
/-- times -/
def cutD (v w : Int64) : Int64 := if v - v / w * w < 0 then v / w - 1 else v / w
def timO (cm : Nat → Int32) (σ : Ws) (v i : Nat) : Int64 :=
  cutD ((((((cm (7 * (16 * wA σ v + i))).toInt64 + (cm (7 * (16 * wA σ v + i) + 1)).toInt64 * wL σ (v * 4)) + (cm (7 * (16 * wA σ v + i) + 2)).toInt64 * wL σ (v * 4 + 1)) + (cm (7 * (16 * wA σ v + i) + 3)).toInt64 * wL σ (v * 4 + 2)) + (cm (7 * (16 * wA σ v + i) + 4)).toInt64 * wL σ (v * 4 + 3))) (cm (7 * (16 * wA σ v + i) + 5)).toInt64
def keyO (rm cm : Nat → Int32) (σ : Ws) (v : Nat) : List Int64 := (List.range (cN_ (rm (wA σ v)))).map (timO cm σ v)
def lexB : List Int64 → List Int64 → Bool
  | _, [] => false
  | [], _ :: _ => true
  | a :: s, b :: t => if a = b then lexB s t else decide (a < b)
/-- v comes ahead of w in the new order -/
def ahd (rm cm : Nat → Int32) (σ : Ws) (v w : Nat) : Prop := lexB (keyO rm cm σ v) (keyO rm cm σ w) = true ∨ (keyO rm cm σ v = keyO rm cm σ w ∧ v < w)
/-- lines go on -/
def goO (σ : Ws) (sq : Nat → Nat) (f i : Nat) : Prop := wA σ (sq (i - 1)) = wA σ (sq i) ∧ ∀ d, d < 4 → wL σ (sq i * 4 + d) - wL σ (sq (i - 1) * 4 + d) = wL σ (sq (f + 1) * 4 + d) - wL σ (sq f * 4 + d)
