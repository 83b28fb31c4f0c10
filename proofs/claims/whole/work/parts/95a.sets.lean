/-! SETS OF BARS -/
theorem nb_mono (s : Nat) {a b : Nat} (h : a ≤ b) : pn_nb s a ≤ pn_nb s b := by
  obtain ⟨d, rfl⟩ : ∃ d, b = a + d := ⟨b - a, by omega⟩
  clear h
  induction d with
  | zero => exact Nat.le_refl _
  | succ d ih => exact Nat.le_trans ih (Nat.le_add_right _ _)
theorem nb_succ {s b : Nat} (h : s.testBit b = true) : pn_nb s (b + 1) = pn_nb s b + 1 := by
  show pn_nb s b + (if s.testBit b then 1 else 0) = _
  rw [h]
  rfl
theorem nb_same {s b : Nat} (h : s.testBit b = false) : pn_nb s (b + 1) = pn_nb s b := by
  show pn_nb s b + (if s.testBit b then 1 else 0) = _
  rw [h]
  rfl
theorem nb_lt {s b c : Nat} (h : s.testBit b = true) (hc : b < c) : pn_nb s b < pn_nb s c := by
  have := nb_mono s (show b + 1 ≤ c from hc)
  rw [nb_succ h] at this
  omega
theorem nb_le (s : Nat) : ∀ b, pn_nb s b ≤ b
  | 0 => Nat.le_refl _
  | b + 1 => by
    have := nb_le s b
    cases h : s.testBit b
    · rw [nb_same h]; omega
    · rw [nb_succ h]; omega
theorem bi_of {s b : Nat} (h : s.testBit b = true) : ∀ {B : Nat}, b < B → pn_bi s B (pn_nb s b) = b
  | 0, hB => absurd hB (Nat.not_lt_zero b)
  | B + 1, hB => by
    show (if s.testBit B ∧ pn_nb s B = pn_nb s b then B else pn_bi s B (pn_nb s b)) = b
    by_cases e : b = B
    · rw [if_pos ⟨by rw [← e]; exact h, by rw [e]⟩, e]
    · have := nb_lt h (show b < B by omega)
      rw [if_neg (by omega)]
      exact bi_of h (by omega)
theorem bi_ex {s : Nat} : ∀ {B i : Nat}, i < pn_nb s B → ∃ b, b < B ∧ s.testBit b = true ∧ pn_nb s b = i ∧ pn_bi s B i = b
  | 0, i, h => absurd h (Nat.not_lt_zero i)
  | B + 1, i, h => by
    cases hb : s.testBit B
    · rw [nb_same hb] at h
      obtain ⟨b, h1, h2, h3, h4⟩ := bi_ex h
      exact ⟨b, by omega, h2, h3, by rw [← h3]; exact bi_of h2 (by omega)⟩
    · rw [nb_succ hb] at h
      by_cases e : i = pn_nb s B
      · exact ⟨B, by omega, hb, e.symm, by rw [e]; exact bi_of hb (by omega)⟩
      · obtain ⟨b, h1, h2, h3, h4⟩ := bi_ex (show i < pn_nb s B by omega)
        exact ⟨b, by omega, h2, h3, by rw [← h3]; exact bi_of h2 (by omega)⟩
theorem bi_lt (s i : Nat) : ∀ {B : Nat}, 0 < B → pn_bi s B i < B
  | 0, h => absurd h (Nat.lt_irrefl 0)
  | B + 1, _ => by
    show (if s.testBit B ∧ pn_nb s B = i then B else pn_bi s B i) < B + 1
    by_cases e : s.testBit B ∧ pn_nb s B = i
    · rw [if_pos e]; omega
    · rw [if_neg e]
      by_cases z : 0 < B
      · have := bi_lt s i z; omega
      · have : B = 0 := by omega
        subst this
        exact Nat.one_pos
/-- by places, or by bars -/
theorem sm_place (s : Nat) (F : Nat → Nat → Int) : ∀ B, dt_sm (fun i => F (pn_bi s B i) i) (pn_nb s B) = dt_sm (fun b => if s.testBit b then F b (pn_nb s b) else 0) B
  | 0 => rfl
  | B + 1 => by
    have ih := sm_place s F B
    rw [dt_sm_split (fun b => if s.testBit b then F b (pn_nb s b) else 0), ← ih]
    have he : ∀ i, i < pn_nb s B → F (pn_bi s (B + 1) i) i = F (pn_bi s B i) i := by
      intro i hi
      show F (if s.testBit B ∧ pn_nb s B = i then B else pn_bi s B i) i = _
      rw [if_neg (by omega)]
    cases hb : s.testBit B
    · rw [nb_same hb, if_neg (by decide), Int.add_zero]
      exact dt_sm_congr he
    · rw [nb_succ hb, dt_sm_split, dt_sm_congr he, if_pos rfl]
      congr 1
      show F (if s.testBit B ∧ pn_nb s B = pn_nb s B then B else _) _ = _
      rw [if_pos ⟨hb, rfl⟩]
/-! HOW GREAT THE NUMBERS ARE -/
theorem sn_add (f g : Nat → Nat) : ∀ n, dt_sn (fun j => f j + g j) n = dt_sn f n + dt_sn g n
  | 0 => rfl
  | n + 1 => by
    show dt_sn (fun j => f j + g j) n + (f n + g n) = (dt_sn f n + f n) + (dt_sn g n + g n)
    rw [sn_add f g n]
    omega
theorem sn_ind (c v : Nat) : ∀ n, dt_sn (fun r => if r = c then v else 0) n ≤ if c < n then v else 0
  | 0 => Nat.zero_le _
  | n + 1 => by
    have := sn_ind c v n
    show dt_sn (fun r => if r = c then v else 0) n + (if n = c then v else 0) ≤ _
    by_cases e : n = c
    · rw [if_pos e, if_pos (by omega)]
      rw [if_neg (by omega)] at this
      omega
    · rw [if_neg e]
      by_cases z : c < n
      · rw [if_pos z] at this
        rw [if_pos (by omega)]
        omega
      · rw [if_neg z] at this
        rw [if_neg (by omega)]
        omega
theorem sn_ind2 (c v n : Nat) : dt_sn (fun r => if r = c then v else 0) n ≤ v := by
  have := sn_ind c v n
  by_cases z : c < n
  · rw [if_pos z] at this; exact this
  · rw [if_neg z] at this; omega
theorem sn_const {f : Nat → Nat} {v : Nat} : ∀ {n : Nat}, (∀ j, j < n → f j ≤ v) → dt_sn f n ≤ n * v
  | 0, _ => Nat.zero_le _
  | n + 1, h => by
    have := sn_const (n := n) (fun j hj => h j (by omega))
    have := h n (by omega)
    show dt_sn f n + f n ≤ (n + 1) * v
    rw [Nat.add_mul, Nat.one_mul]
    omega
theorem pcol_abs {P : pn_T} (wf : pwf P) {b : Nat} (hb : b < pB P) (r : Nat) : (pcol P b r).natAbs ≤ 6 := by
  obtain ⟨h1, h2⟩ := pdx_le wf hb
  unfold pcol
  by_cases a1 : pE P (pF P b) = false ∧ r = pW P (pF P b)
  · rw [if_pos a1]; exact h1
  · rw [if_neg a1]
    by_cases a2 : pE P (pF P b) = false ∧ r = pW P (pF P b) + 1
    · rw [if_pos a2]; exact h2
    · rw [if_neg a2]
      by_cases a3 : pE P (pT P b) = false ∧ r = pW P (pT P b)
      · rw [if_pos a3]; omega
      · rw [if_neg a3]
        by_cases a4 : pE P (pT P b) = false ∧ r = pW P (pT P b) + 1
        · rw [if_pos a4]; omega
        · rw [if_neg a4]; decide
theorem pcol_sum {P : pn_T} (wf : pwf P) {b : Nat} (hb : b < pB P) (n : Nat) : dt_sn (fun r => (pcol P b r).natAbs) n ≤ 24 := by
  have h : ∀ r, r < n → (pcol P b r).natAbs ≤ ((if r = pW P (pF P b) then 6 else 0) + (if r = pW P (pF P b) + 1 then 6 else 0)) + ((if r = pW P (pT P b) then 6 else 0) + (if r = pW P (pT P b) + 1 then 6 else 0)) := by
    intro r _
    by_cases z : r = pW P (pF P b) ∨ r = pW P (pF P b) + 1 ∨ r = pW P (pT P b) ∨ r = pW P (pT P b) + 1
    · have := pcol_abs wf hb r
      rcases z with z | z | z | z
      · rw [if_pos z]; omega
      · rw [if_pos z]; omega
      · rw [if_pos z]; omega
      · rw [if_pos z]; omega
    · have : pcol P b r = 0 := by
        unfold pcol
        rw [if_neg (by omega), if_neg (by omega), if_neg (by omega), if_neg (by omega)]
      rw [this]
      exact Nat.zero_le _
  refine Nat.le_trans (dt_sn_le h) ?_
  rw [sn_add, sn_add, sn_add]
  have := sn_ind2 (pW P (pF P b)) 6 n
  have := sn_ind2 (pW P (pF P b) + 1) 6 n
  have := sn_ind2 (pW P (pT P b)) 6 n
  have := sn_ind2 (pW P (pT P b) + 1) 6 n
  omega
theorem pn_ld_abs {P : pn_T} (wf : pwf P) (r : Nat) : ∀ {k : Nat}, k ≤ pJ P → (pn_ld P k r).natAbs ≤ 20
  | 0, _ => by show (0 : Int).natAbs ≤ 20; decide
  | k + 1, hk => by
    obtain ⟨-, -, h3, h4, -⟩ := wf.2.2.2.2.2.1 k (by omega)
    have ih := pn_ld_abs wf r (k := k) (by omega)
    show (if pE P k = false ∧ r = pW P k then - pU P k else if pE P k = false ∧ r = pW P k + 1 then - pV P k else pn_ld P k r).natAbs ≤ 20
    by_cases a1 : pE P k = false ∧ r = pW P k
    · rw [if_pos a1]; omega
    · rw [if_neg a1]
      by_cases a2 : pE P k = false ∧ r = pW P k + 1
      · rw [if_pos a2]; omega
      · rw [if_neg a2]; exact ih
theorem pR_6 {P : pn_T} (wf : pwf P) : pR P ≤ 6 := by
  have := wf.2.2.2.2.1
  unfold pR
  omega
theorem pL_sum {P : pn_T} (wf : pwf P) : dt_sn (fun r => (pL P r).natAbs) (pR P) ≤ 120 := by
  have := sn_const (f := fun r => (pL P r).natAbs) (v := 20) (n := pR P) (fun r _ => pn_ld_abs wf r (Nat.le_refl _))
  have := pR_6 wf
  omega
theorem pA_cb {P : pn_T} (wf : pwf P) {s : Nat} (hn : pn_nb s (pB P) = pR P) (c : Nat) : dt_sn (fun r => (pA P s r c).natAbs) (pR P) ≤ 24 := by
  by_cases hz : 0 < pB P
  · exact pcol_sum wf (bi_lt s c hz) _
  · have : pR P = 0 := by
      rw [← hn, show pB P = 0 by omega]
      rfl
    rw [this]
    exact Nat.zero_le _
theorem pA_cb1 {P : pn_T} (wf : pwf P) {s : Nat} (hn : pn_nb s (pB P) = pR P) : dt_cb (pA P s) (pR P) 0 5 24 := by
  intro c
  have := pA_cb wf hn c
  by_cases e : c = 0
  · rw [if_pos e]; omega
  · rw [if_neg e]; exact this
theorem pA_cb2 {P : pn_T} (wf : pwf P) {s : Nat} (hn : pn_nb s (pB P) = pR P) (i : Nat) : dt_cb (dt_uc (pA P s) i (pL P)) (pR P) i 5 24 := by
  intro c
  by_cases e : c = i
  · rw [if_pos e]
    have h := pL_sum wf
    have : (fun r => (dt_uc (pA P s) i (pL P) r c).natAbs) = fun r => (pL P r).natAbs := by
      funext r
      unfold dt_uc
      rw [if_pos e]
    rw [this]
    omega
  · rw [if_neg e]
    have : (fun r => (dt_uc (pA P s) i (pL P) r c).natAbs) = fun r => (pA P s r c).natAbs := by
      funext r
      unfold dt_uc
      rw [if_neg e]
    rw [this]
    exact pA_cb wf hn c
theorem pbe_le {P : pn_T} (wf : pwf P) {s : Nat} (hn : pn_nb s (pB P) = pR P) (i : Nat) : (pbe P s i).natAbs ≤ 955514880 := by
  have h := dt_D_le (pA_cb2 wf hn i) (by decide) (by decide)
  have h2 : 5 * 24 ^ pR P ≤ 5 * 24 ^ 6 := Nat.mul_le_mul_left 5 (Nat.pow_le_pow_right (by decide) (pR_6 wf))
  have h3 : 5 * 24 ^ 6 = 955514880 := by decide
  unfold pbe
  by_cases e : pD P s < 0
  · rw [if_pos e]; omega
  · rw [if_neg e]; omega
/-- columns in blocks: fewer ways -/
def pm_f : Nat → Nat
  | 0 => 1
  | n + 1 => (n + 1) * pm_f n
def pm_K (bl : Nat → Nat) (b n : Nat) : Nat := dt_sn (fun c => if bl c = b then 1 else 0) n
def pm_G (a b c : Nat) : Nat := pm_f a * pm_f b * pm_f c
theorem sn_skip (f : Nat → Nat) (j : Nat) : ∀ n, j < n + 1 → dt_sn (fun c => f (dt_sk j c)) n + f j = dt_sn f (n + 1)
  | 0, h => by
    have : j = 0 := by omega
    subst this
    rfl
  | n + 1, h => by
    show (dt_sn (fun c => f (dt_sk j c)) n + f (dt_sk j n)) + f j = dt_sn f (n + 1) + f (n + 1)
    by_cases e : j = n + 1
    · subst e
      have : dt_sk (n + 1) n = n := by unfold dt_sk; rw [if_pos (by omega)]
      rw [this]
      have h2 : dt_sn (fun c => f (dt_sk (n + 1) c)) n = dt_sn f n := dt_sn_congr (fun c hc => by unfold dt_sk; rw [if_pos (by omega)])
      rw [h2]
      rfl
    · have ih := sn_skip f j n (by omega)
      have : dt_sk j n = n + 1 := by unfold dt_sk; rw [if_neg (by omega)]
      rw [this]
      omega
theorem pm_K_skip (bl : Nat → Nat) (b : Nat) {j n : Nat} (h : j < n + 1) : pm_K (fun c => bl (dt_sk j c)) b n + (if bl j = b then 1 else 0) = pm_K bl b (n + 1) := sn_skip (fun c => if bl c = b then 1 else 0) j n h
theorem pm_pred {k : Nat} : k * pm_f (k - 1) ≤ pm_f k := by
  cases k with
  | zero => show 0 * _ ≤ _; rw [Nat.zero_mul]; exact Nat.zero_le _
  | succ k => exact Nat.le_refl _
theorem pm_bl : ∀ (n : Nat) (pat : Nat → Nat → Nat) (bl : Nat → Nat), (∀ c, c < n → bl c < 3) → dt_pm n (fun r c => 6 * pat r (bl c)) ≤ 6 ^ n * dt_pr (fun r => pat r 0 + pat r 1 + pat r 2) n * pm_G (pm_K bl 0 n) (pm_K bl 1 n) (pm_K bl 2 n)
  | 0, pat, bl, _ => by
    show 1 ≤ 1 * 1 * pm_G 0 0 0
    decide
  | n + 1, pat, bl, hbl => by
    obtain ⟨X, hX⟩ : ∃ X, X = 6 ^ n * dt_pr (fun r => pat r 0 + pat r 1 + pat r 2) n := ⟨_, rfl⟩
    obtain ⟨k0, h0⟩ : ∃ k, k = pm_K bl 0 (n + 1) := ⟨_, rfl⟩
    obtain ⟨k1, h1⟩ : ∃ k, k = pm_K bl 1 (n + 1) := ⟨_, rfl⟩
    obtain ⟨k2, h2⟩ : ∃ k, k = pm_K bl 2 (n + 1) := ⟨_, rfl⟩
    have hstep : ∀ j, j < n + 1 → 6 * pat n (bl j) * dt_pm n (fun r c => 6 * pat r (bl (dt_sk j c))) ≤ ((if bl j = 0 then 1 else 0) * (6 * X * (pat n 0 * pm_G (k0 - 1) k1 k2)) + (if bl j = 1 then 1 else 0) * (6 * X * (pat n 1 * pm_G k0 (k1 - 1) k2))) + (if bl j = 2 then 1 else 0) * (6 * X * (pat n 2 * pm_G k0 k1 (k2 - 1))) := by
      intro j hj
      have ih := pm_bl n pat (fun c => bl (dt_sk j c)) (fun c hc => hbl _ (dt_sk_lt hc))
      have q0 := pm_K_skip bl 0 hj
      have q1 := pm_K_skip bl 1 hj
      have q2 := pm_K_skip bl 2 hj
      rw [← h0] at q0
      rw [← h1] at q1
      rw [← h2] at q2
      rw [← hX] at ih
      have hb := hbl j hj
      have fin : ∀ b g, bl j = b → pm_G (pm_K (fun c => bl (dt_sk j c)) 0 n) (pm_K (fun c => bl (dt_sk j c)) 1 n) (pm_K (fun c => bl (dt_sk j c)) 2 n) = g → 6 * pat n (bl j) * dt_pm n (fun r c => 6 * pat r (bl (dt_sk j c))) ≤ 6 * X * (pat n b * g) := by
        intro b g e1 e2
        rw [e2] at ih
        rw [e1]
        refine Nat.le_trans (Nat.mul_le_mul_left _ ih) (Nat.le_of_eq ?_)
        grind
      rcases (show bl j = 0 ∨ bl j = 1 ∨ bl j = 2 by omega) with e | e | e
      · rw [if_pos e, if_neg (by omega)] at *
        rw [if_neg (by omega)] at *
        rw [Nat.one_mul, Nat.zero_mul, Nat.zero_mul]
        exact fin 0 _ e (by rw [show pm_K (fun c => bl (dt_sk j c)) 0 n = k0 - 1 by omega, show pm_K (fun c => bl (dt_sk j c)) 1 n = k1 by omega, show pm_K (fun c => bl (dt_sk j c)) 2 n = k2 by omega])
      · have e0 : ¬ bl j = 0 := by omega
        have e2 : ¬ bl j = 2 := by omega
        rw [if_neg e0] at q0
        rw [if_pos e] at q1
        rw [if_neg e2] at q2
        rw [if_pos e, if_neg e0, if_neg e2, Nat.one_mul, Nat.zero_mul, Nat.zero_mul, Nat.add_zero, Nat.zero_add]
        exact fin 1 _ e (by rw [show pm_K (fun c => bl (dt_sk j c)) 0 n = k0 by omega, show pm_K (fun c => bl (dt_sk j c)) 1 n = k1 - 1 by omega, show pm_K (fun c => bl (dt_sk j c)) 2 n = k2 by omega])
      · have e0 : ¬ bl j = 0 := by omega
        have e1 : ¬ bl j = 1 := by omega
        rw [if_neg e0] at q0
        rw [if_neg e1] at q1
        rw [if_pos e] at q2
        rw [if_pos e, if_neg e0, if_neg e1, Nat.one_mul, Nat.zero_mul, Nat.zero_mul, Nat.add_zero, Nat.zero_add]
        exact fin 2 _ e (by rw [show pm_K (fun c => bl (dt_sk j c)) 0 n = k0 by omega, show pm_K (fun c => bl (dt_sk j c)) 1 n = k1 by omega, show pm_K (fun c => bl (dt_sk j c)) 2 n = k2 - 1 by omega])
    show dt_sn (fun j => 6 * pat n (bl j) * dt_pm n (fun r c => 6 * pat r (bl (dt_sk j c)))) (n + 1) ≤ _
    refine Nat.le_trans (dt_sn_le hstep) ?_
    rw [sn_add, sn_add, dt_sn_mul, dt_sn_mul, dt_sn_mul]
    show pm_K bl 0 (n + 1) * _ + pm_K bl 1 (n + 1) * _ + pm_K bl 2 (n + 1) * _ ≤ 6 ^ (n + 1) * (dt_pr (fun r => pat r 0 + pat r 1 + pat r 2) n * (pat n 0 + pat n 1 + pat n 2)) * pm_G (pm_K bl 0 (n + 1)) (pm_K bl 1 (n + 1)) (pm_K bl 2 (n + 1))
    rw [← h0, ← h1, ← h2]
    have g0 : k0 * pm_G (k0 - 1) k1 k2 ≤ pm_G k0 k1 k2 := by
      unfold pm_G
      rw [← Nat.mul_assoc, ← Nat.mul_assoc]
      exact Nat.mul_le_mul_right _ (Nat.mul_le_mul_right _ pm_pred)
    have g1 : k1 * pm_G k0 (k1 - 1) k2 ≤ pm_G k0 k1 k2 := by
      unfold pm_G
      rw [← Nat.mul_assoc, Nat.mul_left_comm]
      exact Nat.mul_le_mul_right _ (Nat.mul_le_mul_left _ pm_pred)
    have g2 : k2 * pm_G k0 k1 (k2 - 1) ≤ pm_G k0 k1 k2 := by
      unfold pm_G
      rw [Nat.mul_left_comm]
      exact Nat.mul_le_mul_left _ pm_pred
    have e1 : 6 ^ (n + 1) * (dt_pr (fun r => pat r 0 + pat r 1 + pat r 2) n * (pat n 0 + pat n 1 + pat n 2)) * pm_G k0 k1 k2 = 6 * X * (pat n 0 * pm_G k0 k1 k2) + 6 * X * (pat n 1 * pm_G k0 k1 k2) + 6 * X * (pat n 2 * pm_G k0 k1 k2) := by
      rw [hX, Nat.pow_succ]
      generalize 6 ^ n = A
      generalize dt_pr (fun r => pat r 0 + pat r 1 + pat r 2) n = B
      grind
    rw [e1]
    have mul3 : ∀ k g p G : Nat, k * g ≤ G → k * (6 * X * (p * g)) ≤ 6 * X * (p * G) := by
      intro k g p G h
      have : k * (6 * X * (p * g)) = 6 * X * (p * (k * g)) := by grind
      rw [this]
      exact Nat.mul_le_mul_left _ (Nat.mul_le_mul_left _ h)
    exact Nat.add_le_add (Nat.add_le_add (mul3 _ _ _ _ g0) (mul3 _ _ _ _ g1)) (mul3 _ _ _ _ g2)
