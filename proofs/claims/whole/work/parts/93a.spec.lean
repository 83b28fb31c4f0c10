/-! WHAT WAS TOLD, as numbers: ((joints, bars, sizes, price), x, y, fixed, px, py, from, to, size) -/
abbrev pn_T : Type := (Nat × Nat × Nat × Nat) × (Nat → Nat) × (Nat → Nat) × (Nat → Bool) × (Nat → Int) × (Nat → Int) × (Nat → Nat) × (Nat → Nat) × (Nat → Nat)
def pJ (P : pn_T) : Nat := P.1.1
def pB (P : pn_T) : Nat := P.1.2.1
def pS (P : pn_T) : Nat := P.1.2.2.1
def pC (P : pn_T) : Nat := P.1.2.2.2
def pX (P : pn_T) : Nat → Nat := P.2.1
def pY (P : pn_T) : Nat → Nat := P.2.2.1
def pE (P : pn_T) : Nat → Bool := P.2.2.2.1
def pU (P : pn_T) : Nat → Int := P.2.2.2.2.1
def pV (P : pn_T) : Nat → Int := P.2.2.2.2.2.1
def pF (P : pn_T) : Nat → Nat := P.2.2.2.2.2.2.1
def pT (P : pn_T) : Nat → Nat := P.2.2.2.2.2.2.2.1
def pZ (P : pn_T) : Nat → Nat := P.2.2.2.2.2.2.2.2
/-- free joints ahead of j -/
def pn_fc (f : Nat → Bool) : Nat → Nat
  | 0 => 0
  | j + 1 => pn_fc f j + (if f j then 0 else 1)
def pR (P : pn_T) : Nat := 2 * pn_fc (pE P) (pJ P)
def pW (P : pn_T) (j : Nat) : Nat := 2 * pn_fc (pE P) j
def pdx (P : pn_T) (b : Nat) : Int := (pX P (pT P b) : Int) - pX P (pF P b)
def pdy (P : pn_T) (b : Nat) : Int := (pY P (pT P b) : Int) - pY P (pF P b)
def pst (P : pn_T) (b : Nat) : Int := pdx P b * pdx P b + pdy P b * pdy P b
/-- crossing -/
def psd (P : pn_T) (a b c : Nat) : Int := ((pX P b : Int) - pX P a) * ((pY P c : Int) - pY P a) - ((pY P b : Int) - pY P a) * ((pX P c : Int) - pX P a)
def pdot (P : pn_T) (j a b : Nat) : Int := ((pX P a : Int) - pX P j) * ((pX P b : Int) - pX P j) + ((pY P a : Int) - pY P j) * ((pY P b : Int) - pY P j)
def pon (P : pn_T) (j a b : Nat) : Bool := decide (psd P a b j = 0) && decide (pdot P j a b ≤ 0)
def pcr4 (P : pn_T) (a b c d : Nat) : Bool :=
  if a = c ∨ a = d ∨ b = c ∨ b = d then
    (if a = c ∨ a = d then pon P b c d || pon P (c + d - a) a b else pon P a c d || pon P (c + d - b) a b)
  else (pon P a c d || pon P b c d || pon P c a b || pon P d a b) || (decide (psd P a b c * psd P a b d < 0) && decide (psd P c d a * psd P c d b < 0))
def pcr (P : pn_T) (k l : Nat) : Bool := pcr4 P (pF P k) (pT P k) (pF P l) (pT P l)
def pcm (P : pn_T) (b : Nat) : Nat → Nat
  | 0 => 0
  | a + 1 => pcm P b a + (if pcr P b a then 2 ^ a else 0)
/-- sets of bars: bits ahead of b, the bar at place i -/
def pn_nb (s : Nat) : Nat → Nat
  | 0 => 0
  | b + 1 => pn_nb s b + (if s.testBit b then 1 else 0)
def pn_bi (s : Nat) : Nat → Nat → Nat
  | 0, _ => 0
  | b + 1, i => if s.testBit b ∧ pn_nb s b = i then b else pn_bi s b i
/-- the column of a bar -/
def pcol (P : pn_T) (b r : Nat) : Int :=
  if pE P (pF P b) = false ∧ r = pW P (pF P b) then pdx P b
  else if pE P (pF P b) = false ∧ r = pW P (pF P b) + 1 then pdy P b
  else if pE P (pT P b) = false ∧ r = pW P (pT P b) then - pdx P b
  else if pE P (pT P b) = false ∧ r = pW P (pT P b) + 1 then - pdy P b else 0
def pA (P : pn_T) (s : Nat) : Nat → Nat → Int := fun r i => pcol P (pn_bi s (pB P) i) r
/-- the loads by rows, turned -/
def pn_ld (P : pn_T) : Nat → Nat → Int
  | 0, _ => 0
  | j + 1, r => if pE P j = false ∧ r = pW P j then - pU P j else if pE P j = false ∧ r = pW P j + 1 then - pV P j else pn_ld P j r
def pL (P : pn_T) (r : Nat) : Int := pn_ld P (pJ P) r
def pD (P : pn_T) (s : Nat) : Int := dt_D (pR P) (pA P s)
def pch (P : pn_T) (s : Nat) : Bool := decide (pn_nb s (pB P) = pR P) && decide (pD P s ≠ 0)
def pbel (P : pn_T) (s : Nat) : Int := ((pD P s).natAbs : Int)
def pbe (P : pn_T) (s i : Nat) : Int := if pD P s < 0 then - dt_D (pR P) (dt_uc (pA P s) i (pL P)) else dt_D (pR P) (dt_uc (pA P s) i (pL P))
def ppu (P : pn_T) (s b : Nat) : Int := if s.testBit b then pbe P s (pn_nb s b) else 0
def pub (P : pn_T) (s : Nat) : Nat → Nat
  | 0 => 0
  | b + 1 => pub P s b + (if ppu P s b = 0 then 0 else 2 ^ b)
def puj (P : pn_T) (s : Nat) : Nat → Nat
  | 0 => 0
  | b + 1 => if ppu P s b = 0 then puj P s b else puj P s b ||| (2 ^ pF P b ||| 2 ^ pT P b)
/-- the least size for what is borne (0: none) -/
def pn_ls (P : pn_T) (s b : Nat) : Nat → Nat
  | 0 => 0
  | k + 1 => if ((ppu P s b).natAbs : Int) ≤ (pZ P k : Int) * pbel P s ∧ (pn_ls P s b k = 0 ∨ pZ P k < pn_ls P s b k) then pZ P k else pn_ls P s b k
def pls (P : pn_T) (s b : Nat) : Nat := pn_ls P s b (pS P)
def pc0 (P : pn_T) (s : Nat) : Int := dt_sm (fun b => pst P b * ((ppu P s b).natAbs : Int)) (pB P)
def px1 (P : pn_T) (s : Nat) : Prop := ∃ b a, a < b ∧ b < pB P ∧ ppu P s b ≠ 0 ∧ ppu P s a ≠ 0 ∧ pcr P b a = true
def px2 (P : pn_T) (s : Nat) : Prop := ∃ b, b < pB P ∧ ppu P s b ≠ 0 ∧ pls P s b = 0
def pc2 (P : pn_T) (s : Nat) : Int := dt_sm (fun b => if ppu P s b = 0 then 0 else pst P b * (pls P s b : Int)) (pB P) * pbel P s
/-- the cost over pbel; none where the kind rules the choice out -/
def pcost (P : pn_T) (k s : Nat) (c : Int) : Prop :=
  (k = 0 ∧ c = pc0 P s) ∨ (k = 1 ∧ ¬ px1 P s ∧ c = pc0 P s) ∨ (k = 2 ∧ ¬ px2 P s ∧ c = pc2 P s) ∨ (k = 3 ∧ c = pc0 P s + (pC P : Int) * (pn_nb (puj P s (pB P)) 6 : Int) * pbel P s)
/-- a is ahead of b: the least bit that only one has is a's -/
def pah (a b : Nat) : Prop := ∃ i, a.testBit i = true ∧ b.testBit i = false ∧ ∀ j, j < i → a.testBit j = b.testBit j
def pbest (P : pn_T) (k s : Nat) (c : Int) : Prop := s < 2 ^ pB P ∧ pch P s = true ∧ pcost P k s c ∧ ∀ s' c', s' < 2 ^ pB P → pch P s' = true → pcost P k s' c' → c * pbel P s' < c' * pbel P s ∨ (c * pbel P s' = c' * pbel P s ∧ (s = s' ∨ pah s s'))
/-- the sets in order -/
def pn_rev : Nat → Nat → Nat
  | 0, _ => 0
  | b + 1, c => 2 * pn_rev b (c % 2 ^ b) + c / 2 ^ b % 2
def pchs (P : pn_T) : List Nat := ((List.range (2 ^ pB P)).reverse.map (pn_rev (pB P))).filter (pch P)
/-- fields: by signs g of what is not used -/
def pn_us (P : pn_T) (s : Nat) : Nat → Nat
  | 0 => 0
  | i + 1 => pn_us P s i + (if pbe P s i = 0 then 1 else 0)
def pwt (P : pn_T) (s g i : Nat) : Int := if (if pbe P s i = 0 then g.testBit (pn_us P s i) = true else pbe P s i < 0) then - pst P (pn_bi s (pB P) i) else pst P (pn_bi s (pB P) i)
def pfd (P : pn_T) (s g : Nat) (f : Nat → Int) : Prop := ∀ i, i < pR P → dt_sm (fun r => f r * (- pA P s r i)) (pR P) = pbel P s * pwt P s g i
def pnum (P : pn_T) (f : Nat → Int) (b : Nat) : Int := dt_sm (fun r => f r * (- pcol P b r)) (pR P)
def pgood (P : pn_T) (s g : Nat) : Prop := ∃ f, pfd P s g f ∧ ∀ b, b < pB P → ((pnum P f b).natAbs : Int) ≤ pst P b * pbel P s
/-- a choice as light as the frame of kind 0 -/
def pmin (P : pn_T) (s : Nat) : Prop := ∃ s0 c0, pbest P 0 s0 c0 ∧ pc0 P s * pbel P s0 = c0 * pbel P s
def pfirst (P : pn_T) (p g : Nat) : Prop := p < (pchs P).length ∧ pmin P ((pchs P).getD p 0) ∧ g < 2 ^ pn_us P ((pchs P).getD p 0) (pR P) ∧ pgood P ((pchs P).getD p 0) g ∧ (∀ g', g' < g → ¬ pgood P ((pchs P).getD p 0) g') ∧ ∀ p', p' < p → pmin P ((pchs P).getD p' 0) → ∀ g', g' < 2 ^ pn_us P ((pchs P).getD p' 0) (pR P) → ¬ pgood P ((pchs P).getD p' 0) g'
/-- well told -/
def pwf (P : pn_T) : Prop :=
  pJ P ≤ 6 ∧ pB P ≤ 10 ∧ pS P ≤ 5 ∧ pC P ≤ 1000 ∧ pn_fc (pE P) (pJ P) ≤ 3 ∧ (∀ j, j < pJ P → pX P j ≤ 6 ∧ pY P j ≤ 6 ∧ (pU P j).natAbs ≤ 20 ∧ (pV P j).natAbs ≤ 20 ∧ (pE P j = true → pU P j = 0 ∧ pV P j = 0)) ∧
  (∀ i j, i < j → j < pJ P → ¬ (pX P i = pX P j ∧ pY P i = pY P j)) ∧ (∀ b, b < pB P → pF P b < pJ P ∧ pT P b < pJ P ∧ pF P b ≠ pT P b) ∧
  (∀ a b, a < b → b < pB P → ¬ (pF P a = pF P b ∧ pT P a = pT P b) ∧ ¬ (pF P a = pT P b ∧ pT P a = pF P b)) ∧ (∀ k, k < pS P → 1 ≤ pZ P k ∧ pZ P k ≤ 200)
/-- the model holds it -/
def pM (P : pn_T) (τ : lf_St) : Prop :=
  lf_gi τ 0 = nI (pJ P) ∧ lf_gi τ 6 = nI (pB P) ∧ lf_gi τ 9 = nI (pS P) ∧ lf_gi τ 11 = nI (pC P) ∧
  (∀ j, j < pJ P → lf_ai τ 1 j = nI (pX P j) ∧ lf_ai τ 2 j = nI (pY P j) ∧ lf_ai τ 3 j = (if pE P j then 1 else 0) ∧ lf_ai τ 4 j = Int32.ofInt (pU P j) ∧ lf_ai τ 5 j = Int32.ofInt (pV P j)) ∧
  (∀ b, b < pB P → lf_ai τ 7 b = nI (pF P b) ∧ lf_ai τ 8 b = nI (pT P b)) ∧ (∀ k, k < pS P → lf_ai τ 10 k = nI (pZ P k))
/-- the class holds it -/
def pK (P : pn_T) (σ : lf_St) : Prop :=
  lf_gi σ 0 = nI (pJ P) ∧ lf_gi σ 1 = nI (pn_fc (pE P) (pJ P)) ∧ lf_gi σ 2 = nI (pB P) ∧ lf_gi σ 3 = nI (pS P) ∧ lf_gi σ 4 = nI (pC P) ∧
  (∀ j, j < pJ P → lf_ai σ 2 j = nI (pX P j) ∧ lf_ai σ 3 j = nI (pY P j) ∧ lf_ai σ 4 j = (if pE P j then -1 else nI (pW P j)) ∧ (pE P j = false → lf_ai σ 5 (pW P j) = Int32.ofInt (pU P j) ∧ lf_ai σ 5 (pW P j + 1) = Int32.ofInt (pV P j))) ∧
  (∀ b, b < pB P → lf_ai σ 6 b = nI (pF P b) ∧ lf_ai σ 7 b = nI (pT P b) ∧ lf_ai σ 8 b = Int32.ofInt (pdx P b) ∧ lf_ai σ 9 b = Int32.ofInt (pdy P b) ∧ lf_ai σ 10 b = Int32.ofInt (pst P b) ∧ lf_ai σ 11 b = nI (pcm P b b)) ∧
  (∀ k, k < pS P → lf_ai σ 12 k = nI (pZ P k)) ∧ (∀ r, pR P ≤ r → r < 6 → lf_ai σ 5 r = 0)
/-- what the class keeps of its search -/
def pFr (P : pn_T) (σ : lf_St) (k : Nat) : Prop :=
  (lf_gi σ (20 + k) = 0 ∧ ∀ s c, s < 2 ^ pB P → pch P s = true → ¬ pcost P k s c) ∨
  (lf_gi σ (20 + k) = 1 ∧ ∃ s c, pbest P k s c ∧ lf_gi σ (30 + k) = nI s ∧ lf_gi σ (40 + k) = nI (pub P s (pB P)) ∧ lf_gi σ (50 + k) = nI (puj P s (pB P)) ∧ (lf_gl σ (10 + k)).toInt = c ∧ (lf_gl σ (20 + k)).toInt = pbel P s ∧ ∀ b, b < pB P → (lf_al σ (27 + k) b).toInt = ppu P s b)
def pKn (P : pn_T) (σ : lf_St) : Prop := lf_gi σ 5 = nI (pchs P).length ∧ (∀ i, i < (pchs P).length → lf_ai σ 14 i = nI ((pchs P).getD i 0)) ∧ ∀ k, k < 4 → pFr P σ k
/-- what both keep of the proof -/
def pPf (P : pn_T) (σ τ : lf_St) : Prop := ∃ p g f, pfirst P p g ∧ lf_gi σ 9 = nI ((pchs P).getD p 0) ∧ pfd P ((pchs P).getD p 0) g f ∧ (lf_gl σ 1).toInt = pbel P ((pchs P).getD p 0) ∧ (lf_gl τ 25).toInt = pbel P ((pchs P).getD p 0) ∧ (∀ r, r < pR P → (lf_al σ 20 r).toInt = f r ∧ (lf_al τ 24 r).toInt = f r) ∧ (∀ j, j < pJ P → lf_ai τ 13 j = if pE P j then -6 else nI (pW P j))
def pu_Inv (σ τ : lf_St) : Prop := ∃ P, pwf P ∧ pM P τ ∧ pK P σ ∧ (lf_gi σ 6 = 0 ∨ (lf_gi σ 6 = 1 ∧ pKn P σ)) ∧ ((lf_gi σ 8 = 0 ∧ lf_gi τ 12 = 0) ∨ (lf_gi σ 8 = 1 ∧ lf_gi τ 12 = 1 ∧ pPf P σ τ))
theorem pu_init : pu_Inv lf_C0 lf_M0 := by
  refine ⟨((0, 0, 0, 0), fun _ => 0, fun _ => 0, fun _ => true, fun _ => 0, fun _ => 0, fun _ => 0, fun _ => 0, fun _ => 0), ?_, ?_, ?_, Or.inl rfl, Or.inl ⟨rfl, rfl⟩⟩
  · exact ⟨by decide, by decide, by decide, by decide, by decide, fun j h => absurd h (Nat.not_lt_zero j), fun i j _ h => absurd h (Nat.not_lt_zero j), fun b h => absurd h (Nat.not_lt_zero b), fun a b _ h => absurd h (Nat.not_lt_zero b), fun k h => absurd h (Nat.not_lt_zero k)⟩
  · exact ⟨rfl, rfl, rfl, rfl, fun j h => absurd h (Nat.not_lt_zero j), fun b h => absurd h (Nat.not_lt_zero b), fun k h => absurd h (Nat.not_lt_zero k)⟩
  · exact ⟨rfl, rfl, rfl, rfl, rfl, fun j h => absurd h (Nat.not_lt_zero j), fun b h => absurd h (Nat.not_lt_zero b), fun k h => absurd h (Nat.not_lt_zero k), fun r _ _ => rfl⟩
