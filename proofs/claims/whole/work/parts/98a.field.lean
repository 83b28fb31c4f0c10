/-! FIELDS -/
theorem dt_neg : ∀ (n : Nat) (M : Nat → Nat → Int), dt_D n (fun r c => - M r c) = dt_sg n * dt_D n M
  | 0, M => rfl
  | n + 1, M => by
    rw [dt_D_succ, dt_D_succ, ← dt_sm_mul]
    refine dt_sm_congr (fun j _ => ?_)
    have ih := dt_neg n (fun r c => M r (dt_sk j c))
    rw [ih]
    show _ = - dt_sg n * _
    grind
def pN (P : pn_T) (s : Nat) : Nat → Nat → Int := fun i r => - pA P s r i
theorem pN_abs {P : pn_T} {s : Nat} : (dt_D (pR P) (pN P s)).natAbs = (pD P s).natAbs := by
  unfold pN
  rw [dt_neg (pR P) (fun i r => pA P s r i), dt_T (pR P) (pA P s), Int.natAbs_mul, dt_sg_abs, Nat.one_mul]
  rfl
theorem pN_ne {P : pn_T} {s : Nat} (h : pch P s = true) : dt_D (pR P) (pN P s) ≠ 0 := by
  have h1 := pch_D h
  have h2 := pN_abs (P := P) (s := s)
  omega
/-- the field, by Cramer -/
def pff (P : pn_T) (s g r : Nat) : Int := if dt_D (pR P) (pN P s) < 0 then - dt_D (pR P) (dt_uc (pN P s) r (pwt P s g)) else dt_D (pR P) (dt_uc (pN P s) r (pwt P s g))
theorem pff_fd {P : pn_T} {s : Nat} (h : pch P s = true) (g : Nat) : pfd P s g (pff P s g) := by
  intro i hi
  have hd := pN_ne h
  have cr := dt_cramer (v := pwt P s g) hd hi
  have ha := pN_abs (P := P) (s := s)
  rw [pbel_nat, ← ha]
  unfold pff
  by_cases q : dt_D (pR P) (pN P s) < 0
  · rw [dt_sm_congr (g := fun t => (-1) * (dt_D (pR P) (dt_uc (pN P s) t (pwt P s g)) * pN P s i t)) (fun t _ => by rw [if_pos q]; unfold pN; grind), dt_sm_mul, cr]
    have : ((dt_D (pR P) (pN P s)).natAbs : Int) = - dt_D (pR P) (pN P s) := by omega
    rw [this]
    grind
  · rw [dt_sm_congr (g := fun t => dt_D (pR P) (dt_uc (pN P s) t (pwt P s g)) * pN P s i t) (fun t _ => by rw [if_neg q]; rfl), cr]
    have : ((dt_D (pR P) (pN P s)).natAbs : Int) = dt_D (pR P) (pN P s) := by omega
    rw [this]
theorem pfd_uniq {P : pn_T} {s g : Nat} (h : pch P s = true) {f f' : Nat → Int} (hf : pfd P s g f) (hf' : pfd P s g f') : ∀ r, r < pR P → f r = f' r := by
  intro r hr
  have z := dt_uniq (n := pR P) (M := pN P s) (z := fun t => f t - f' t) (pN_ne h) (fun i hi => by
    rw [dt_sm_lin (a := 1) (b := -1) (g := fun t => f t * (- pA P s t i)) (h := fun t => f' t * (- pA P s t i)) (fun t _ => by unfold pN; grind), hf i hi, hf' i hi]
    omega) r hr
  have z2 : f r - f' r = 0 := z
  omega
theorem pwt_abs {P : pn_T} (wf : pwf P) {s : Nat} (hn : pn_nb s (pB P) = pR P) (g : Nat) {i : Nat} (hi : i < pR P) : (pwt P s g i).natAbs ≤ 72 := by
  obtain ⟨b, hb, -, -, hbk⟩ := bi_ex (show i < pn_nb s (pB P) by omega)
  have h := pst_le wf hb
  unfold pwt
  rw [hbk]
  split <;> omega
theorem pN_col {P : pn_T} (wf : pwf P) {s : Nat} (hn : pn_nb s (pB P) = pR P) (c : Nat) : dt_sn (fun i => (pN P s i c).natAbs) (pR P) ≤ 36 := by
  have h6 := pR_6 wf
  refine Nat.le_trans (sn_const (v := 6) (fun i hi => ?_)) (by omega)
  obtain ⟨b, hb, -, -, hbk⟩ := bi_ex (show i < pn_nb s (pB P) by omega)
  have h := pcol_abs wf hb c
  unfold pN pA
  rw [hbk, Int.natAbs_neg]
  exact h
theorem pN_cb1 {P : pn_T} (wf : pwf P) {s : Nat} (hn : pn_nb s (pB P) = pR P) : dt_cb (pN P s) (pR P) 0 12 36 := by
  intro c
  have := pN_col wf hn c
  split <;> omega
theorem pN_cb2 {P : pn_T} (wf : pwf P) {s : Nat} (hn : pn_nb s (pB P) = pR P) (g k : Nat) : dt_cb (dt_uc (pN P s) k (pwt P s g)) (pR P) k 12 36 := by
  have h6 := pR_6 wf
  intro c
  by_cases e : c = k
  · rw [if_pos e]
    refine Nat.le_trans (sn_const (v := 72) (fun i hi => ?_)) (by omega)
    unfold dt_uc
    rw [if_pos e]
    exact pwt_abs wf hn g hi
  · rw [if_neg e]
    have : (fun r => (dt_uc (pN P s) k (pwt P s g) r c).natAbs) = fun r => (pN P s r c).natAbs := by
      funext r
      unfold dt_uc
      rw [if_neg e]
    rw [this]
    exact pN_col wf hn c
theorem pff_le0 {P : pn_T} (wf : pwf P) {s : Nat} (hn : pn_nb s (pB P) = pR P) (g k : Nat) : (dt_D (pR P) (dt_uc (pN P s) k (pwt P s g))).natAbs ≤ 26121388032 := by
  have h := dt_D_le (pN_cb2 wf hn g k) (by decide) (by decide)
  have h6 := pR_6 wf
  have h2 : 36 ^ pR P ≤ 36 ^ 6 := Nat.pow_le_pow_right (by decide) h6
  have h3 : 12 * 36 ^ pR P ≤ 12 * 36 ^ 6 := Nat.mul_le_mul_left 12 h2
  have h4 : 12 * 36 ^ 6 = 26121388032 := by decide
  omega
theorem pff_le {P : pn_T} (wf : pwf P) {s : Nat} (hn : pn_nb s (pB P) = pR P) (g r : Nat) : (pff P s g r).natAbs ≤ 26121388032 := by
  have h := pff_le0 wf hn g r
  unfold pff
  split <;> omega
theorem pfd_le {P : pn_T} (wf : pwf P) {s g : Nat} (h : pch P s = true) {f : Nat → Int} (hf : pfd P s g f) {r : Nat} (hr : r < pR P) : (f r).natAbs ≤ 26121388032 := by
  rw [pfd_uniq h hf (pff_fd h g) r hr]
  exact pff_le wf (pch_nb h) g r
/-- a joint's field -/
def pfv (P : pn_T) (f : Nat → Int) (j w : Nat) : Int := if pE P j then 0 else f (pW P j + w)
theorem end_sum {P : pn_T} (wf : pwf P) (f : Nat → Int) {j : Nat} (hj : j < pJ P) (dx dy : Int) : dt_sm (fun r => f r * (if pE P j = false ∧ r = pW P j then dx else if pE P j = false ∧ r = pW P j + 1 then dy else 0)) (pR P) = dx * pfv P f j 0 + dy * pfv P f j 1 := by
  unfold pfv
  cases e : pE P j
  · have hW := pW_lt wf hj e
    rw [dt_sm_two (c := pW P j) (d := pW P j + 1) (by omega) hW (fun r _ q1 q2 => by rw [if_neg (fun z => q1 z.2), if_neg (fun z => q2 z.2), Int.mul_zero]), if_pos ⟨rfl, rfl⟩, if_neg (fun z => by omega), if_pos ⟨rfl, rfl⟩, if_neg (by decide), if_neg (by decide), Nat.add_zero]
    grind
  · rw [dt_sm_zero (fun r _ => by rw [if_neg (fun z => by cases z.1), if_neg (fun z => by cases z.1), Int.mul_zero]), if_pos rfl, if_pos rfl]
    omega
theorem pcol_two {P : pn_T} (wf : pwf P) {b : Nat} (hb : b < pB P) (r : Nat) : - pcol P b r = (if pE P (pF P b) = false ∧ r = pW P (pF P b) then - pdx P b else if pE P (pF P b) = false ∧ r = pW P (pF P b) + 1 then - pdy P b else 0) + (if pE P (pT P b) = false ∧ r = pW P (pT P b) then pdx P b else if pE P (pT P b) = false ∧ r = pW P (pT P b) + 1 then pdy P b else 0) := by
  obtain ⟨f1, f2, f3⟩ := wf.2.2.2.2.2.2.2.1 b hb
  have hdis : pE P (pF P b) = false → pE P (pT P b) = false → pn_fc (pE P) (pF P b) ≠ pn_fc (pE P) (pT P b) := fun q q2 z => f3 (fc_inj q q2 z)
  have w1 : pW P (pF P b) = 2 * pn_fc (pE P) (pF P b) := rfl
  have w2 : pW P (pT P b) = 2 * pn_fc (pE P) (pT P b) := rfl
  unfold pcol
  by_cases p1 : pE P (pF P b) = false ∧ r = pW P (pF P b)
  · rw [if_pos p1, if_pos p1, if_neg (fun q => by have := hdis p1.1 q.1; omega), if_neg (fun q => by have := hdis p1.1 q.1; omega)]
    omega
  · rw [if_neg p1, if_neg p1]
    by_cases p2 : pE P (pF P b) = false ∧ r = pW P (pF P b) + 1
    · rw [if_pos p2, if_pos p2, if_neg (fun q => by have := hdis p2.1 q.1; omega), if_neg (fun q => by have := hdis p2.1 q.1; omega)]
      omega
    · rw [if_neg p2, if_neg p2]
      by_cases p3 : pE P (pT P b) = false ∧ r = pW P (pT P b)
      · rw [if_pos p3, if_pos p3]
        omega
      · rw [if_neg p3, if_neg p3]
        by_cases p4 : pE P (pT P b) = false ∧ r = pW P (pT P b) + 1
        · rw [if_pos p4, if_pos p4]
          omega
        · rw [if_neg p4, if_neg p4]
          rfl
theorem pnum_eval {P : pn_T} (wf : pwf P) (f : Nat → Int) {b : Nat} (hb : b < pB P) : pnum P f b = pdx P b * (pfv P f (pT P b) 0 - pfv P f (pF P b) 0) + pdy P b * (pfv P f (pT P b) 1 - pfv P f (pF P b) 1) := by
  obtain ⟨f1, f2, f3⟩ := wf.2.2.2.2.2.2.2.1 b hb
  unfold pnum
  rw [dt_sm_congr (g := fun r => f r * (if pE P (pF P b) = false ∧ r = pW P (pF P b) then - pdx P b else if pE P (pF P b) = false ∧ r = pW P (pF P b) + 1 then - pdy P b else 0) + f r * (if pE P (pT P b) = false ∧ r = pW P (pT P b) then pdx P b else if pE P (pT P b) = false ∧ r = pW P (pT P b) + 1 then pdy P b else 0)) (fun r _ => by rw [pcol_two wf hb r, Int.mul_add]), dt_sm_add, end_sum wf f f1, end_sum wf f f2]
  grind
theorem pfv_le {P : pn_T} (wf : pwf P) {f : Nat → Int} {T : Nat} (hf : ∀ r, r < pR P → (f r).natAbs ≤ T) {j w : Nat} (hj : j < pJ P) (hw : w < 2) : (pfv P f j w).natAbs ≤ T := by
  unfold pfv
  cases e : pE P j
  · have hW := pW_lt wf hj e
    rw [if_neg (by decide)]
    exact hf _ (by omega)
  · rw [if_pos rfl]
    exact Nat.zero_le _
theorem pdx_6 {P : pn_T} (wf : pwf P) {b : Nat} (hb : b < pB P) : (pdx P b).natAbs ≤ 6 ∧ (pdy P b).natAbs ≤ 6 := by
  obtain ⟨f1, f2, f3⟩ := wf.2.2.2.2.2.2.2.1 b hb
  have q1 := wf.2.2.2.2.2.1 _ f1
  have q2 := wf.2.2.2.2.2.1 _ f2
  unfold pdx pdy
  omega
theorem pnum_le {P : pn_T} (wf : pwf P) {f : Nat → Int} (hf : ∀ r, r < pR P → (f r).natAbs ≤ 26121388032) {b : Nat} (hb : b < pB P) : (pnum P f b).natAbs ≤ 626913312768 := by
  obtain ⟨f1, f2, f3⟩ := wf.2.2.2.2.2.2.2.1 b hb
  obtain ⟨d1, d2⟩ := pdx_6 wf hb
  rw [pnum_eval wf f hb]
  have a1 := pfv_le wf hf f1 (w := 0) (by decide)
  have a2 := pfv_le wf hf f2 (w := 0) (by decide)
  have a3 := pfv_le wf hf f1 (w := 1) (by decide)
  have a4 := pfv_le wf hf f2 (w := 1) (by decide)
  have m1 := nu_natAbs_mul d1 (show (pfv P f (pT P b) 0 - pfv P f (pF P b) 0).natAbs ≤ 52242776064 by omega)
  have m2 := nu_natAbs_mul d2 (show (pfv P f (pT P b) 1 - pfv P f (pF P b) 1).natAbs ≤ 52242776064 by omega)
  omega
theorem pnum_congr {P : pn_T} {f f' : Nat → Int} (h : ∀ r, r < pR P → f r = f' r) (b : Nat) : pnum P f b = pnum P f' b := dt_sm_congr (fun r hr => by rw [h r hr])
theorem pgood_iff {P : pn_T} {s g : Nat} (h : pch P s = true) {f : Nat → Int} (hf : pfd P s g f) : pgood P s g ↔ ∀ b, b < pB P → ((pnum P f b).natAbs : Int) ≤ pst P b * pbel P s := by
  constructor
  · intro ⟨f', h1, h2⟩ b hb
    rw [pnum_congr (pfd_uniq h hf h1) b]
    exact h2 b hb
  · intro h2
    exact ⟨f, hf, h2⟩
/-! the left inverse too -/
theorem cV_left {P : pn_T} {s : Nat} {σ : lf_St} (hc : pch P s = true) (hV : cV P s σ) {t i : Nat} (ht : t < pR P) (hi : i < pR P) : dt_sm (fun r => (lf_al σ (32 + t) (pR P + r)).toInt * pA P s r i) (pR P) = if t = i then pbel P s else 0 := by
  have z := dt_uniq (n := pR P) (M := pA P s) (z := fun t => dt_sm (fun r => (lf_al σ (32 + t) (pR P + r)).toInt * pA P s r i) (pR P) - (if t = i then pbel P s else 0)) (pch_D hc) (fun r hr => by
    rw [dt_sm_lin (a := 1) (b := -1) (g := fun t => dt_sm (fun c => (lf_al σ (32 + t) (pR P + c)).toInt * pA P s c i) (pR P) * pA P s r t) (h := fun t => (if t = i then pbel P s else 0) * pA P s r t) (fun t _ => by grind), pv_sys hV (fun c => pA P s c i) hr, dt_sm_one hi (fun j _ e => by rw [if_neg e, Int.zero_mul]), if_pos rfl]
    omega) t ht
  have z2 : dt_sm (fun r => (lf_al σ (32 + t) (pR P + r)).toInt * pA P s r i) (pR P) - (if t = i then pbel P s else 0) = 0 := z
  omega
theorem cV_field {P : pn_T} {s g : Nat} {σ : lf_St} (hc : pch P s = true) (hV : cV P s σ) {f : Nat → Int} (hf : ∀ r, r < pR P → f r = - dt_sm (fun t => (lf_al σ (32 + t) (pR P + r)).toInt * pwt P s g t) (pR P)) : pfd P s g f := by
  intro i hi
  rw [dt_sm_congr (g := fun r => dt_sm (fun t => pwt P s g t * ((lf_al σ (32 + t) (pR P + r)).toInt * pA P s r i)) (pR P)) (fun r hr => by
    rw [hf r hr, Int.neg_mul_neg, Int.mul_comm, ← dt_sm_mul]
    exact dt_sm_congr (fun t _ => by grind)), dt_sm_swap, dt_sm_congr (g := fun t => pwt P s g t * (if t = i then pbel P s else 0)) (fun t ht => by rw [dt_sm_mul, cV_left hc hV ht hi]), dt_sm_one hi (fun j _ e => by rw [if_neg e, Int.mul_zero]), if_pos rfl, Int.mul_comm]
/-! how many are unused -/
theorem us_le (P : pn_T) (s : Nat) : ∀ i, pn_us P s i ≤ i
  | 0 => Nat.le_refl _
  | i + 1 => by
    have := us_le P s i
    show pn_us P s i + (if pbe P s i = 0 then 1 else 0) ≤ i + 1
    split <;> omega
theorem us_sum (P : pn_T) (s : Nat) : ∀ i, (pn_us P s i : Int) + dt_sm (fun i => if pbe P s i = 0 then 0 else 1) i = i
  | 0 => rfl
  | i + 1 => by
    have ih := us_sum P s i
    show ((pn_us P s i + (if pbe P s i = 0 then 1 else 0) : Nat) : Int) + (dt_sm (fun i => if pbe P s i = 0 then 0 else 1) i + (if pbe P s i = 0 then 0 else 1)) = _
    by_cases q : pbe P s i = 0
    · rw [if_pos q, if_pos q]
      omega
    · rw [if_neg q, if_neg q]
      omega
theorem nb_bs (f : Nat → Bool) {n : Nat} : ∀ {k : Nat}, k ≤ n → ((pn_nb (pn_bs f n) k : Nat) : Int) = dt_sm (fun b => if f b then 1 else 0) k
  | 0, _ => rfl
  | k + 1, h => by
    show ((pn_nb (pn_bs f n) k + (if (pn_bs f n).testBit k then 1 else 0) : Nat) : Int) = dt_sm (fun b => if f b then 1 else 0) k + (if f k then 1 else 0)
    rw [bs_bit, decide_eq_true (by omega : k < n), Bool.true_and, ← nb_bs f (show k ≤ n by omega)]
    cases f k <;> rfl
theorem us_cnt {P : pn_T} (wf : pwf P) {s : Nat} (hn : pn_nb s (pB P) = pR P) : pn_nb (pub P s (pB P)) 10 + pn_us P s (pR P) = pR P := by
  have hB := wf.2.1
  have h1 := us_sum P s (pR P)
  have h2 := sm_place s (fun _ i => if pbe P s i = 0 then 0 else 1) (pB P)
  rw [hn] at h2
  have h3 : ((pn_nb (pub P s (pB P)) (pB P) : Nat) : Int) = dt_sm (fun b => if s.testBit b then (if pbe P s (pn_nb s b) = 0 then 0 else 1) else 0) (pB P) := by
    rw [pub_bs, nb_bs _ (Nat.le_refl _)]
    refine dt_sm_congr (fun b _ => ?_)
    unfold ppu
    by_cases q : s.testBit b = true
    · rw [if_pos q, if_pos q]
      by_cases q2 : pbe P s (pn_nb s b) = 0
      · rw [if_pos q2, if_neg (by rw [decide_eq_true_iff]; exact fun z => z q2)]
      · rw [if_neg q2, if_pos (by rw [decide_eq_true_iff]; exact q2)]
    · rw [if_neg q, if_neg q, if_neg (by rw [decide_eq_true_iff]; exact fun z => z rfl)]
  have h4 : pn_nb (pub P s (pB P)) 10 = pn_nb (pub P s (pB P)) (pB P) := by
    have hlt : pub P s (pB P) < 2 ^ pB P := by rw [pub_bs]; exact bs_lt _ _
    have := nb_up hlt (10 - pB P)
    rw [show pB P + (10 - pB P) = 10 by omega] at this
    exact this
  rw [h4]
  omega
/-! the first that proves -/
def pfs (P : pn_T) (s g : Nat) : Prop := s < 2 ^ pB P ∧ pch P s = true ∧ pmin P s ∧ g < 2 ^ pn_us P s (pR P) ∧ pgood P s g ∧ (∀ g', g' < g → ¬ pgood P s g') ∧ ∀ s', s' < 2 ^ pB P → pch P s' = true → pah s' s → pmin P s' → ∀ g', g' < 2 ^ pn_us P s' (pR P) → ¬ pgood P s' g'
theorem pfs_uniq {P : pn_T} {s g s' g' : Nat} (h : pfs P s g) (h' : pfs P s' g') : s = s' ∧ g = g' := by
  obtain ⟨a1, a2, a3, a4, a5, a6, a7⟩ := h
  obtain ⟨b1, b2, b3, b4, b5, b6, b7⟩ := h'
  have e : s = s' := by
    by_cases q : s = s'
    · exact q
    · rcases ah_tot q with z | z
      · exact absurd a5 (b7 s a1 a2 z a3 g a4)
      · exact absurd b5 (a7 s' b1 b2 z b3 g' b4)
  subst e
  refine ⟨rfl, ?_⟩
  rcases Nat.lt_trichotomy g g' with q | q | q
  · exact absurd a5 (b6 g q)
  · exact q
  · exact absurd b5 (a6 g' q)
theorem pchs_pw (P : pn_T) : (pchs P).Pairwise pah := by
  unfold pchs
  refine List.Pairwise.filter _ ?_
  rw [List.pairwise_map, List.pairwise_reverse]
  refine List.Pairwise.imp_of_mem (R := fun a b => a < b) (fun {a b} ha hb hab => ?_) List.pairwise_lt_range
  exact rev_ah _ (List.mem_range.mp hb) hab
theorem pchs_ord {P : pn_T} {i j : Nat} (hij : i < j) (hj : j < (pchs P).length) : pah ((pchs P).getD i 0) ((pchs P).getD j 0) := by
  rw [List.getD_eq_getElem?_getD, List.getD_eq_getElem?_getD, List.getElem?_eq_getElem hj, List.getElem?_eq_getElem (show i < (pchs P).length by omega)]
  exact List.pairwise_iff_getElem.mp (pchs_pw P) i j (by omega) hj hij
theorem pfs_of {P : pn_T} {p g : Nat} (h : pfirst P p g) : pfs P ((pchs P).getD p 0) g := by
  obtain ⟨h1, h2, h3, h4, h5, h6⟩ := h
  have hm := pchs_mem.mp (pchs_at h1)
  refine ⟨hm.1, hm.2, h2, h3, h4, h5, fun s' a1 a2 a3 a4 g' hg' => ?_⟩
  obtain ⟨p', q1, q2⟩ := pchs_ix (pchs_mem.mpr ⟨a1, a2⟩)
  rw [← q2] at a3 a4 hg' ⊢
  refine h6 p' ?_ a4 g' hg'
  rcases Nat.lt_trichotomy p' p with z | z | z
  · exact z
  · rw [z] at a3; exact absurd a3 ah_irr
  · exact absurd (pchs_ord z q1) (fun w => ah_anti w a3)
