/-- the joint-blocks of a bar -/
def pt_p (P : pn_T) (b k : Nat) : Nat := (if pE P (pF P b) = false ∧ pn_fc (pE P) (pF P b) = k then 1 else 0) + (if pE P (pT P b) = false ∧ pn_fc (pE P) (pT P b) = k then 1 else 0)
theorem pcol_pat {P : pn_T} (wf : pwf P) {b : Nat} (hb : b < pB P) (r : Nat) : (pcol P b r).natAbs ≤ 6 * pt_p P b (r / 2) := by
  have h6 := pcol_abs wf hb r
  unfold pt_p
  have hF : pW P (pF P b) = 2 * pn_fc (pE P) (pF P b) := rfl
  have hT : pW P (pT P b) = 2 * pn_fc (pE P) (pT P b) := rfl
  by_cases a : pE P (pF P b) = false ∧ pn_fc (pE P) (pF P b) = r / 2
  · rw [if_pos a]; omega
  · rw [if_neg a]
    by_cases c : pE P (pT P b) = false ∧ pn_fc (pE P) (pT P b) = r / 2
    · rw [if_pos c]; omega
    · have : pcol P b r = 0 := by
        unfold pcol
        rw [if_neg (fun q => a ⟨q.1, by omega⟩), if_neg (fun q => a ⟨q.1, by omega⟩), if_neg (fun q => c ⟨q.1, by omega⟩), if_neg (fun q => c ⟨q.1, by omega⟩)]
      rw [this]
      exact Nat.zero_le _
theorem ind_3 {p : Prop} [Decidable p] (x : Nat) : (if p ∧ x = 0 then 1 else 0) + (if p ∧ x = 1 then 1 else 0) + (if p ∧ x = 2 then 1 else 0) ≤ if p then 1 else 0 := by
  by_cases h : p
  · rw [if_pos h]
    by_cases a : x = 0
    · rw [if_pos ⟨h, a⟩, if_neg (by omega), if_neg (by omega)]; omega
    · rw [if_neg (by omega)]
      by_cases b : x = 1
      · rw [if_pos ⟨h, b⟩, if_neg (by omega)]; omega
      · rw [if_neg (by omega)]
        by_cases c : x = 2
        · rw [if_pos ⟨h, c⟩]; omega
        · rw [if_neg (by omega)]; omega
  · rw [if_neg h, if_neg (fun q => h q.1), if_neg (fun q => h q.1), if_neg (fun q => h q.1)]
    omega
theorem pt_w (P : pn_T) (b : Nat) : pt_p P b 0 + pt_p P b 1 + pt_p P b 2 ≤ (if pE P (pF P b) = false then 1 else 0) + (if pE P (pT P b) = false then 1 else 0) := by
  have h1 := ind_3 (p := pE P (pF P b) = false) (pn_fc (pE P) (pF P b))
  have h2 := ind_3 (p := pE P (pT P b) = false) (pn_fc (pE P) (pT P b))
  unfold pt_p
  omega
theorem sn_zero {f : Nat → Nat} : ∀ {n : Nat}, (∀ j, j < n → f j = 0) → dt_sn f n = 0
  | 0, _ => rfl
  | n + 1, h => by
    show dt_sn f n + f n = 0
    rw [sn_zero (fun j hj => h j (by omega)), h n (by omega)]
theorem sn_uniq (p : Nat → Bool) : ∀ {n : Nat}, (∀ r r', r < r' → r' < n → p r = true → p r' = true → False) → dt_sn (fun r => if p r then 1 else 0) n ≤ 1
  | 0, _ => Nat.zero_le _
  | n + 1, h => by
    have ih := sn_uniq p (n := n) (fun r r' a b => h r r' a (by omega))
    show dt_sn (fun r => if p r then 1 else 0) n + (if p n then 1 else 0) ≤ 1
    cases e : p n
    · exact ih
    · have : dt_sn (fun r => if p r then 1 else 0) n = 0 := sn_zero (fun j hj => by
        cases q : p j
        · rfl
        · exact (h j n hj (by omega) q e).elim)
      rw [this]
      exact Nat.le_refl _
theorem pr_le8 {w q : Nat → Nat} {n : Nat} (h : ∀ r, r < n → w r ≤ 1 ∨ (w r ≤ 2 ∧ 1 ≤ q r ∧ q r ≤ 3)) (hq : ∀ r r', r < r' → r' < n → ¬ w r ≤ 1 → ¬ w r' ≤ 1 → q r ≠ q r') : dt_pr w n ≤ 8 := by
  obtain ⟨p, hp⟩ : ∃ p : Nat → Nat → Bool, p = fun v r => decide (¬ w r ≤ 1 ∧ q r = v) := ⟨_, rfl⟩
  have key : ∀ m, m ≤ n → dt_pr w m ≤ 2 ^ (dt_sn (fun r => if p 1 r then 1 else 0) m + dt_sn (fun r => if p 2 r then 1 else 0) m + dt_sn (fun r => if p 3 r then 1 else 0) m) := by
    intro m
    induction m with
    | zero => intro _; exact Nat.le_refl _
    | succ m ih =>
      intro hm
      have ih := ih (by omega)
      show dt_pr w m * w m ≤ 2 ^ ((dt_sn (fun r => if p 1 r then 1 else 0) m + (if p 1 m then 1 else 0)) + (dt_sn (fun r => if p 2 r then 1 else 0) m + (if p 2 m then 1 else 0)) + (dt_sn (fun r => if p 3 r then 1 else 0) m + (if p 3 m then 1 else 0)))
      rcases h m (by omega) with z | ⟨z1, z2, z3⟩
      · have e : ∀ v, p v m = false := fun v => by rw [hp]; exact decide_eq_false (fun q => q.1 z)
        rw [e 1, e 2, e 3]
        exact Nat.le_trans (Nat.mul_le_mul ih z) (Nat.le_of_eq (by rw [Nat.mul_one]; rfl))
      · by_cases z : w m ≤ 1
        · have e : ∀ v, p v m = false := fun v => by rw [hp]; exact decide_eq_false (fun q => q.1 z)
          rw [e 1, e 2, e 3]
          exact Nat.le_trans (Nat.mul_le_mul ih z) (Nat.le_of_eq (by rw [Nat.mul_one]; rfl))
        · have e : ∀ v, p v m = decide (q m = v) := fun v => by
            rw [hp]
            exact decide_eq_decide.mpr ⟨fun q => q.2, fun q => ⟨z, q⟩⟩
          rw [e 1, e 2, e 3]
          refine Nat.le_trans (Nat.mul_le_mul ih z1) (Nat.le_of_eq ?_)
          rw [← Nat.pow_succ]
          congr 1
          rcases (show q m = 1 ∨ q m = 2 ∨ q m = 3 by omega) with y | y | y
          · rw [y]
            show _ + 1 = (_ + 1) + (_ + 0) + (_ + 0)
            omega
          · rw [y]
            show _ + 1 = (_ + 0) + (_ + 1) + (_ + 0)
            omega
          · rw [y]
            show _ + 1 = (_ + 0) + (_ + 0) + (_ + 1)
            omega
  have u : ∀ v, dt_sn (fun r => if p v r then 1 else 0) n ≤ 1 := fun v => sn_uniq (p v) (fun r r' a b c d => by
    rw [hp] at c d
    have c := of_decide_eq_true c
    have d := of_decide_eq_true d
    exact hq r r' a b c.1 d.1 (by rw [c.2, d.2]))
  have := u 1
  have := u 2
  have := u 3
  exact Nat.le_trans (key n (Nat.le_refl _)) (Nat.pow_le_pow_right (n := 2) (j := 3) (by decide) (by omega))
theorem fc_inj {P : pn_T} {i j : Nat} (hi : pE P i = false) (hj : pE P j = false) (h : pn_fc (pE P) i = pn_fc (pE P) j) : i = j := by
  rcases Nat.lt_trichotomy i j with z | z | z
  · have := pn_fc_lt hi z; omega
  · exact z
  · have := pn_fc_lt hj z; omega
theorem pbel_le {P : pn_T} (wf : pwf P) {s : Nat} (hn : pn_nb s (pB P) = pR P) : pbel P s ≤ 2985984 := by
  have h6 := pR_6 wf
  have hfc := wf.2.2.2.2.1
  have hRe : pR P = 2 * pn_fc (pE P) (pJ P) := rfl
  have hlt : ∀ i, i < pR P → pn_bi s (pB P) i < pB P := fun i hi => by
    obtain ⟨b, h1, -, -, h4⟩ := bi_ex (show i < pn_nb s (pB P) by omega)
    rw [h4]
    exact h1
  have h1 : (pD P s).natAbs ≤ dt_pm (pR P) (fun i r => 6 * pt_p P (pn_bi s (pB P) i) (r / 2)) := by
    unfold pD
    rw [← dt_T]
    refine Nat.le_trans (dt_D_pm _ _) (dt_pm_le _ (fun i r hi hr => ?_))
    exact pcol_pat wf (hlt i hi) r
  have h2 := pm_bl (pR P) (fun i k => pt_p P (pn_bi s (pB P) i) k) (fun c => c / 2) (fun c hc => by show c / 2 < 3; omega)
  have h3 : dt_pr (fun i => pt_p P (pn_bi s (pB P) i) 0 + pt_p P (pn_bi s (pB P) i) 1 + pt_p P (pn_bi s (pB P) i) 2) (pR P) ≤ 8 := by
    refine pr_le8 (q := fun i => pn_fc (pE P) (pF P (pn_bi s (pB P) i)) + pn_fc (pE P) (pT P (pn_bi s (pB P) i))) (fun i hi => ?_) (fun i i' hii hi' w1 w2 => ?_)
    · have hb := hlt i hi
      have hw := pt_w P (pn_bi s (pB P) i)
      obtain ⟨f1, f2, f3⟩ := wf.2.2.2.2.2.2.2.1 _ hb
      by_cases e1 : pE P (pF P (pn_bi s (pB P) i)) = false
      · by_cases e2 : pE P (pT P (pn_bi s (pB P) i)) = false
        · rw [if_pos e1, if_pos e2] at hw
          refine Or.inr ⟨hw, ?_⟩
          have y1 := pn_fc_lt e1 f1
          have y2 := pn_fc_lt e2 f2
          have y3 : pn_fc (pE P) (pF P (pn_bi s (pB P) i)) ≠ pn_fc (pE P) (pT P (pn_bi s (pB P) i)) := fun q => f3 (fc_inj e1 e2 q)
          omega
        · rw [if_neg e2] at hw
          refine Or.inl ?_
          by_cases e1 : pE P (pF P (pn_bi s (pB P) i)) = false
          · rw [if_pos e1] at hw; exact hw
          · rw [if_neg e1] at hw; exact Nat.le_trans hw (by decide)
      · rw [if_neg e1] at hw
        refine Or.inl ?_
        by_cases e2 : pE P (pT P (pn_bi s (pB P) i)) = false
        · rw [if_pos e2] at hw; exact hw
        · rw [if_neg e2] at hw; exact Nat.le_trans hw (by decide)
    · have two : ∀ j, j < pR P → ¬ pt_p P (pn_bi s (pB P) j) 0 + pt_p P (pn_bi s (pB P) j) 1 + pt_p P (pn_bi s (pB P) j) 2 ≤ 1 → pE P (pF P (pn_bi s (pB P) j)) = false ∧ pE P (pT P (pn_bi s (pB P) j)) = false := by
        intro j hj hw
        have h := pt_w P (pn_bi s (pB P) j)
        by_cases e1 : pE P (pF P (pn_bi s (pB P) j)) = false
        · by_cases e2 : pE P (pT P (pn_bi s (pB P) j)) = false
          · exact ⟨e1, e2⟩
          · rw [if_neg e2, if_pos e1] at h; exact absurd h hw
        · rw [if_neg e1] at h
          by_cases e2 : pE P (pT P (pn_bi s (pB P) j)) = false
          · rw [if_pos e2] at h; exact absurd h hw
          · rw [if_neg e2] at h; exact absurd (Nat.le_trans h (by decide)) hw
      obtain ⟨a1, a2⟩ := two i (by omega) w1
      obtain ⟨b1, b2⟩ := two i' hi' w2
      obtain ⟨x, x1, x2, x3, x4⟩ := bi_ex (show i < pn_nb s (pB P) by omega)
      obtain ⟨y, y1, y2, y3, y4⟩ := bi_ex (show i' < pn_nb s (pB P) by omega)
      rw [x4] at a1 a2
      rw [y4] at b1 b2
      rw [x4, y4]
      have hxy : x < y := by
        rcases Nat.lt_trichotomy x y with z | z | z
        · exact z
        · rw [z] at x3; omega
        · have := nb_lt y2 z; omega
      obtain ⟨f1, f2, f3⟩ := wf.2.2.2.2.2.2.2.1 x x1
      obtain ⟨g1, g2, g3⟩ := wf.2.2.2.2.2.2.2.1 y y1
      have hd := wf.2.2.2.2.2.2.2.2.1 x y hxy y1
      intro hq
      have l1 := pn_fc_lt a1 f1
      have l2 := pn_fc_lt a2 f2
      have l3 := pn_fc_lt b1 g1
      have l4 := pn_fc_lt b2 g2
      have n1 : pn_fc (pE P) (pF P x) ≠ pn_fc (pE P) (pT P x) := fun q => f3 (fc_inj a1 a2 q)
      have n2 : pn_fc (pE P) (pF P y) ≠ pn_fc (pE P) (pT P y) := fun q => g3 (fc_inj b1 b2 q)
      by_cases c : pn_fc (pE P) (pF P x) = pn_fc (pE P) (pF P y)
      · exact hd.1 ⟨fc_inj a1 b1 c, fc_inj a2 b2 (by omega)⟩
      · exact hd.2 ⟨fc_inj a1 b2 (by omega), fc_inj a2 b1 (by omega)⟩
  have h4 : pm_G (pm_K (fun c => c / 2) 0 (pR P)) (pm_K (fun c => c / 2) 1 (pR P)) (pm_K (fun c => c / 2) 2 (pR P)) ≤ 8 := by
    rcases (show pR P = 0 ∨ pR P = 2 ∨ pR P = 4 ∨ pR P = 6 by omega) with e | e | e | e <;> rw [e] <;> decide
  have h5 : 6 ^ pR P ≤ 6 ^ 6 := Nat.pow_le_pow_right (by decide) h6
  have h7 : (pD P s).natAbs ≤ 6 ^ 6 * 8 * 8 := Nat.le_trans h1 (Nat.le_trans h2 (Nat.mul_le_mul (Nat.mul_le_mul h5 h3) h4))
  unfold pbel
  have : 6 ^ 6 * 8 * 8 = 2985984 := by decide
  omega
theorem pbel_pos {P : pn_T} {s : Nat} (h : pch P s = true) : 0 < pbel P s := by
  unfold pch at h
  have h2 := of_decide_eq_true (Bool.and_eq_true_iff.mp h).2
  unfold pbel
  omega
theorem pch_nb {P : pn_T} {s : Nat} (h : pch P s = true) : pn_nb s (pB P) = pR P := by
  unfold pch at h
  exact of_decide_eq_true (Bool.and_eq_true_iff.mp h).1
theorem ppu_le {P : pn_T} (wf : pwf P) {s : Nat} (hn : pn_nb s (pB P) = pR P) (b : Nat) : (ppu P s b).natAbs ≤ 955514880 := by
  unfold ppu
  cases s.testBit b
  · show (0 : Int).natAbs ≤ _; decide
  · exact pbe_le wf hn _
