/-! 15: positions of brackets, blocks; what is left of the reference's readers -/
section POS
variable {N : Int} {F G : Int → Int} {d lb : Nat → Int32}
theorem TV.opUp (T : TV N F G) (v w : Int) (h : 0 ≤ v) (h2 : v < w) : 2 * v - F v < 2 * w - F w := by
  have := T.climbs' v w h (by omega)
  omega
theorem TV.ob (T : TV N F G) (p : Int) : 0 ≤ Ob F N p ∧ Ob F N p ≤ N ∧ (∀ y, 0 ≤ y → y < Ob F N p → 2 * y - F y < p) ∧ (Ob F N p < N → p ≤ 2 * Ob F N p - F (Ob F N p)) := by
  have hN := T.nn
  obtain ⟨h1, h2, h3, h4⟩ := fst_spec (fun y => decide (p ≤ 2 * y - F y)) N.toNat 0
  refine ⟨h1, by unfold Ob; omega, fun y g1 g2 => ?_, fun g => ?_⟩
  · have := h3 y g1 g2
    simp only [decide_eq_false_iff_not] at this
    omega
  · have := h4 (by unfold Ob at g; omega)
    simpa [Ob] using this
theorem TV.obStep (T : TV N F G) (p : Int) : Ob F N (p + 1) = Ob F N p + if Ob F N p < N ∧ 2 * Ob F N p - F (Ob F N p) = p then 1 else 0 := by
  have hN := T.nn
  obtain ⟨h1, h2, h3, h4⟩ := T.ob p
  by_cases c : Ob F N p < N ∧ 2 * Ob F N p - F (Ob F N p) = p
  · rw [if_pos c]
    refine fst_eq _ _ _ _ (by omega) (by omega) (fun y g1 g2 => ?_) (fun g => ?_)
    · simp only [decide_eq_false_iff_not]
      by_cases q : y = Ob F N p
      · rw [q]; omega
      · have := h3 y g1 (by omega); omega
    · simp only [decide_eq_true_eq]
      have := T.opUp (Ob F N p) (Ob F N p + 1) h1 (by omega)
      omega
  · rw [if_neg c, Int.add_zero]
    refine fst_eq _ _ _ _ h1 (by omega) (fun y g1 g2 => ?_) (fun g => ?_)
    · simp only [decide_eq_false_iff_not]
      have := h3 y g1 g2; omega
    · simp only [decide_eq_true_eq]
      have := h4 (by omega)
      omega
/-- excess at a position -/
def Ex (F : Int → Int) (N p : Int) : Int := 2 * Ob F N (p + 1) - (p + 1)
/-- the node of a position -/
def Np (F : Int → Int) (N p : Int) : Int := if 2 * (Ob F N (p + 1) - 1) - F (Ob F N (p + 1) - 1) = p then Ob F N (p + 1) - 1 else Up F (Ob F N (p + 1) - 1) (2 * Ob F N (p + 1) - (p + 1))
theorem TV.np (T : TV N F G) (p : Int) (h : 0 ≤ p) (h2 : p < 2 * N) : 1 ≤ Ob F N (p + 1) ∧ 0 ≤ Np F N p ∧ Np F N p < N ∧
    ((2 * Np F N p - F (Np F N p) = p ∧ Ex F N p = F (Np F N p) + 1) ∨ ((∀ y, 0 ≤ y → y < N → 2 * y - F y ≠ p) ∧ 2 * En F N (Np F N p) - F (Np F N p) - 1 = p ∧ Ex F N p = F (Np F N p))) := by
  have hN := T.nn
  obtain ⟨o, ho⟩ : ∃ o, o = Ob F N (p + 1) := ⟨_, rfl⟩
  obtain ⟨h3, h4, h5, h6⟩ := T.ob (p + 1)
  have e0 := T.2.2.1
  rw [← ho] at h3 h4 h5 h6
  have o1 : 1 ≤ o := by
    by_cases q : o = 0
    · rw [q] at h6
      have := h6 (by omega)
      rw [e0] at this
      omega
    · omega
  refine ⟨by omega, ?_⟩
  unfold Np Ex
  rw [← ho]
  have hu := h5 (o - 1) (by omega) (by omega)
  by_cases c : 2 * (o - 1) - F (o - 1) = p
  · rw [if_pos c]
    exact ⟨by omega, by omega, Or.inl ⟨c, by omega⟩⟩
  · rw [if_neg c]
    have dl : 0 ≤ 2 * o - (p + 1) ∧ 2 * o - (p + 1) ≤ F (o - 1) ∧ F o ≤ 2 * o - (p + 1) := by
      have b := T.bd o
      by_cases q : o < N
      · have := h6 q
        omega
      · have := T.out o (by omega)
        omega
    obtain ⟨u1, u2, u3, u4⟩ := T.upSpec (o - 1) (2 * o - (p + 1)) (by omega) (by omega) dl.1 dl.2.1
    have en : En F N (Up F (o - 1) (2 * o - (p + 1))) = o := T.enEq _ _ u1 (by omega) (by omega) (by omega) (fun y g1 g2 => by have := u4 y (by omega) g1; omega) (by omega)
    refine ⟨u1, by omega, Or.inr ⟨fun y g1 g2 g3 => ?_, by rw [en]; omega, u3.symm⟩⟩
    rcases Int.lt_trichotomy y (o - 1) with q | q | q
    · have := T.opUp y (o - 1) g1 q; omega
    · rw [q] at g3; exact c g3
    · by_cases t : o < N
      · have := h6 t
        by_cases r : y = o
        · rw [r] at g3; omega
        · have := T.opUp o y (by omega) (by omega); omega
      · omega
theorem TV.ex (T : TV N F G) (p : Int) (h : 0 ≤ p) (h2 : p < 2 * N) : 0 ≤ Ex F N p ∧ Ex F N p ≤ 100 := by
  obtain ⟨a1, a2, a3, a4⟩ := T.np p h h2
  have b := T.bd (Np F N p)
  omega
theorem nodeOfPositionOf (T : TR N F G (iI N) d lb) (p : Int) (h : 0 ≤ p) (h2 : p < 2 * N) : mX3_nodeOfPosition (iI N) d (iI p) = some (iI (Np F N p)) := by
  have hN := T.1.nn
  obtain ⟨h3, h4, h5, h6⟩ := T.1.ob (p + 1)
  obtain ⟨a1, a2, a3, a4⟩ := T.1.np p h h2
  have b := T.1.bd (Ob F N (p + 1) - 1)
  unfold mX3_nodeOfPosition
  simp (disch := omega) only [iI_zero, iI_len, iI_le, iI_lt, iI_eq, iI_add, iI_sub, iI_mul, Option.bind_some]
  rw [openedBeforeOf T (p + 1) (by omega) (by omega), excessBeforeOf T (p + 1) (by omega) (by omega)]
  simp (disch := omega) only [iI_zero, iI_len, iI_le, iI_lt, iI_eq, iI_add, iI_sub, iI_mul, Option.bind_some]
  rw [openingOf' T _ (by omega) (by omega)]
  simp (disch := omega) only [iI_zero, iI_len, iI_le, iI_lt, iI_eq, iI_add, iI_sub, iI_mul, Option.bind_some]
  unfold Np
  by_cases c : 2 * (Ob F N (p + 1) - 1) - F (Ob F N (p + 1) - 1) = p
  · rw [if_pos c, if_pos c]
  · rw [if_neg c, if_neg c]
    have hu := h5 (Ob F N (p + 1) - 1) (by omega) (by omega)
    have dl : 0 ≤ 2 * Ob F N (p + 1) - (p + 1) := by
      by_cases q : Ob F N (p + 1) < N
      · have := h6 q
        have := T.1.bd (Ob F N (p + 1))
        omega
      · omega
    rw [climbIn T _ _ (by omega) (by omega) dl (by omega)]
    rfl
theorem opensAt_2 (T : TR N F G (iI N) d lb) (p : Int) (hp : -2147483648 ≤ p) (hp2 : p < 2147483648) : ∀ (k f : Nat) (x : Int), k < f → 0 ≤ x → x + k = N → mX5_opensAt_2 f (iI N) d (iI p) (iI x) = some (iI (orElse N (fst (fun y => decide (2 * y - F y = p)) k x) (-1))) := by
  have hN := T.1.nn
  intro k
  induction k with
  | zero =>
    intro f x hf h0 hx
    obtain ⟨f, rfl⟩ : ∃ g, f = g + 1 := ⟨f - 1, by omega⟩
    rw [mX5_opensAt_2, fst]
    simp (disch := omega) only [iI_zero, iI_len, iI_le, iI_lt, iI_eq, iI_add, iI_sub, iI_mul, Option.bind_some]
    rw [if_pos (by omega), orElse, if_pos (by omega)]
  | succ k ih =>
    intro f x hf h0 hx
    obtain ⟨f, rfl⟩ : ∃ g, f = g + 1 := ⟨f - 1, by omega⟩
    have b := T.1.bd x
    have ih := ih f (x + 1) (by omega) (by omega) (by omega)
    rw [mX5_opensAt_2, mopeningOf T x h0 (by omega)]
    simp (disch := omega) only [iI_zero, iI_len, iI_le, iI_lt, iI_eq, iI_add, iI_sub, iI_mul, Option.bind_some]
    rw [if_neg (by omega)]
    by_cases c : 2 * x - F x = p
    · rw [if_pos c, fst_yes (by simpa using c), orElse, if_neg (by omega)]
    · rw [if_neg c, fst_no (by simpa using c)]
      exact ih
theorem nodeAt_8 (T : TR N F G (iI N) d lb) (p : Int) (hp : -2147483648 ≤ p) (hp2 : p < 2147483648) : ∀ (k f : Nat) (x : Int), k < f → 0 ≤ x → x + k = N → mX5_nodeAt_8 f (iI N) d (iI p) (iI (-1)) (iI x) = some (iI (orElse N (fst (fun y => decide (2 * y - F y + 2 * (En F N y - y) - 1 = p)) k x) (-1))) := by
  have hN := T.1.nn
  intro k
  induction k with
  | zero =>
    intro f x hf h0 hx
    obtain ⟨f, rfl⟩ : ∃ g, f = g + 1 := ⟨f - 1, by omega⟩
    rw [mX5_nodeAt_8, fst]
    simp (disch := omega) only [iI_zero, iI_len, iI_le, iI_lt, iI_eq, iI_add, iI_sub, iI_mul, Option.bind_some]
    rw [if_pos (by omega), orElse, if_pos (by omega)]
  | succ k ih =>
    intro f x hf h0 hx
    obtain ⟨f, rfl⟩ : ∃ g, f = g + 1 := ⟨f - 1, by omega⟩
    have b := T.1.bd x
    have e := T.1.en x h0 (by omega)
    have ih := ih f (x + 1) (by omega) (by omega) (by omega)
    rw [mX5_nodeAt_8, mclosingOf T x h0 (by omega)]
    simp (disch := omega) only [iI_zero, iI_len, iI_le, iI_lt, iI_eq, iI_add, iI_sub, iI_mul, Option.bind_some]
    rw [if_neg (by omega), if_neg (by omega)]
    by_cases c : 2 * x - F x + 2 * (En F N x - x) - 1 = p
    · rw [if_pos c, fst_yes (by simpa using c), orElse, if_neg (by omega)]
      obtain ⟨f, rfl⟩ : ∃ g, f = g + 1 := ⟨f - 1, by omega⟩
      rw [mX5_nodeAt_8]
      simp (disch := omega) only [iI_zero, iI_len, iI_le, iI_lt, iI_eq, iI_add, iI_sub, iI_mul, Option.bind_some]
      by_cases q : N ≤ x + 1
      · rw [if_pos q]
      · rw [if_neg q, if_pos h0]
    · rw [if_neg c, fst_no (by simpa using c)]
      exact ih
theorem TV.clNe (T : TV N F G) (v w : Int) (h : 0 ≤ v) (h2 : v < w) (h3 : w < N) : 2 * En F N v - F v ≠ 2 * En F N w - F w := by
  have ev := T.en v h (by omega)
  have ew := T.en w (by omega) h3
  by_cases c : w < En F N v
  · have f1 := ev.2.2.1 w h2 c
    have : En F N w ≤ En F N v := by
      by_cases q : En F N v < En F N w
      · have := ew.2.2.1 (En F N v) c q
        have := ev.2.2.2
        omega
      · omega
    omega
  · have := T.climbs' (En F N v) w (by omega) (by omega)
    have := ev.2.2.2
    omega
theorem nodeAtOf (T : TR N F G (iI N) d lb) (p : Int) (h : 0 ≤ p) (h2 : p < 2 * N) : mX5_nodeAt (iI N) d (iI p) = some (iI (Np F N p)) := by
  have hN := T.1.nn
  obtain ⟨a1, a2, a3, a4⟩ := T.1.np p h h2
  unfold mX5_nodeAt mX5_opensAt
  rw [opensAt_2 T p (by omega) (by omega) N.toNat _ 0 (by rw [FU_big]; omega) (by omega) (by omega), Option.bind_some]
  rcases a4 with c | c
  · have e : fst (fun y => decide (2 * y - F y = p)) N.toNat 0 = Np F N p := fst_eq _ _ _ _ a2 (by omega) (fun y g1 g2 => by have := T.1.opUp y _ g1 g2; simp only [decide_eq_false_iff_not]; omega) (fun _ => by simpa using c.1)
    rw [e, orElse, if_neg (by omega), FU_big, mX5_nodeAt_8]
    simp (disch := omega) only [iI_zero, iI_len, iI_le, iI_lt, iI_eq, iI_add, iI_sub, iI_mul, Option.bind_some]
    rw [if_neg (by omega), if_pos a2]
  · have e : fst (fun y => decide (2 * y - F y = p)) N.toNat 0 = N := fst_eq _ _ _ _ (by omega) (by omega) (fun y g1 g2 => by simpa using c.1 y g1 g2) (fun g => absurd g (by omega))
    have e2 : fst (fun y => decide (2 * y - F y + 2 * (En F N y - y) - 1 = p)) N.toNat 0 = Np F N p := fst_eq _ _ _ _ a2 (by omega) (fun y g1 g2 => by have := T.1.clNe y _ g1 g2 a3; simp only [decide_eq_false_iff_not]; omega) (fun _ => by simp only [decide_eq_true_eq]; omega)
    rw [e, orElse, if_pos rfl, nodeAt_8 T p (by omega) (by omega) N.toNat _ 0 (by rw [FU_big]; omega) (by omega) (by omega), e2, orElse, if_neg (by omega)]
theorem excessOf (T : TR N F G (iI N) d lb) (p : Int) (h : 0 ≤ p) (h2 : p < 2 * N) : mX5_excess (iI N) d (iI p) = some (iI (Ex F N p)) := by
  have hN := T.1.nn
  obtain ⟨a1, a2, a3, a4⟩ := T.1.np p h h2
  have b := T.1.bd (Np F N p)
  unfold mX5_excess
  rw [nodeAtOf T p h h2, Option.bind_some, mopeningOf T _ a2 a3]
  simp (disch := omega) only [iI_zero, iI_len, iI_le, iI_lt, iI_eq, iI_add, iI_sub, iI_mul, Option.bind_some, gdi, dAt T]
  rcases a4 with c | c
  · rw [if_pos c.1, c.2]
  · rw [if_neg (c.1 _ a2 a3), c.2.2]
/-- blocks: least and greatest -/
def Mi (F : Int → Int) (N : Int) : Nat → Int → Int → Int
  | 0, _, m => m
  | k + 1, p, m => Mi F N k (p + 1) (if Ex F N p < m then Ex F N p else m)
def Ma (F : Int → Int) (N : Int) : Nat → Int → Int → Int
  | 0, _, m => m
  | k + 1, p, m => Ma F N k (p + 1) (if m < Ex F N p then Ex F N p else m)
theorem leastExcess_29 (T : TR N F G (iI N) d lb) (wi x2 : Int32) (e : Int) (he : e ≤ 2 * N) : ∀ (k f : Nat) (p m : Int), k < f → 0 ≤ p → p + k = e → 0 ≤ m → m ≤ 100 → mX0_leastExcess_29 f (iI N) d wi x2 (iI e) (iI (Ob F N p)) (iI m) (iI p) = some (iI (Mi F N k p m)) := by
  have hN := T.1.nn
  intro k
  induction k with
  | zero =>
    intro f p m hf h0 hx hm hm2
    obtain ⟨f, rfl⟩ : ∃ g, f = g + 1 := ⟨f - 1, by omega⟩
    rw [mX0_leastExcess_29, Mi]
    simp (disch := omega) only [iI_zero, iI_len, iI_le, iI_lt, iI_eq, iI_add, iI_sub, iI_mul, Option.bind_some]
    rw [if_pos (by omega)]
  | succ k ih =>
    intro f p m hf h0 hx hm hm2
    obtain ⟨f, rfl⟩ : ∃ g, f = g + 1 := ⟨f - 1, by omega⟩
    have o := T.1.ob p
    have st := T.1.obStep p
    have ex := T.1.ex p h0 (by omega)
    have exd : Ex F N p = 2 * Ob F N (p + 1) - (p + 1) := rfl
    have o2 := T.1.ob (p + 1)
    rw [mX0_leastExcess_29, opensAtOf T _ p (by omega) (by omega) (by omega) (by omega), Mi]
    simp (disch := omega) only [iI_zero, iI_len, iI_le, iI_lt, iI_eq, iI_add, iI_sub, iI_mul, Option.bind_some]
    rw [← st, if_neg (by omega)]
    simp only [iMin]
    simp (disch := omega) only [iI_zero, iI_len, iI_le, iI_lt, iI_eq, iI_add, iI_sub, iI_mul, Option.bind_some, iI_ite]
    rw [show 2 * Ob F N (p + 1) - p - 1 = Ex F N p by omega]
    exact ih f (p + 1) _ (by omega) (by omega) (by omega) (by split <;> omega) (by split <;> omega)
theorem greatestExcess_28 (T : TR N F G (iI N) d lb) (wi x2 : Int32) (e : Int) (he : e ≤ 2 * N) : ∀ (k f : Nat) (p m : Int), k < f → 0 ≤ p → p + k = e → 0 ≤ m → m ≤ 100 → mX0_greatestExcess_28 f (iI N) d wi x2 (iI e) (iI (Ob F N p)) (iI m) (iI p) = some (iI (Ma F N k p m)) := by
  have hN := T.1.nn
  intro k
  induction k with
  | zero =>
    intro f p m hf h0 hx hm hm2
    obtain ⟨f, rfl⟩ : ∃ g, f = g + 1 := ⟨f - 1, by omega⟩
    rw [mX0_greatestExcess_28, Ma]
    simp (disch := omega) only [iI_zero, iI_len, iI_le, iI_lt, iI_eq, iI_add, iI_sub, iI_mul, Option.bind_some]
    rw [if_pos (by omega)]
  | succ k ih =>
    intro f p m hf h0 hx hm hm2
    obtain ⟨f, rfl⟩ : ∃ g, f = g + 1 := ⟨f - 1, by omega⟩
    have o := T.1.ob p
    have st := T.1.obStep p
    have ex := T.1.ex p h0 (by omega)
    have exd : Ex F N p = 2 * Ob F N (p + 1) - (p + 1) := rfl
    have o2 := T.1.ob (p + 1)
    rw [mX0_greatestExcess_28, opensAtOf T _ p (by omega) (by omega) (by omega) (by omega), Ma]
    simp (disch := omega) only [iI_zero, iI_len, iI_le, iI_lt, iI_eq, iI_add, iI_sub, iI_mul, Option.bind_some]
    rw [← st, if_neg (by omega)]
    simp only [iMax]
    simp (disch := omega) only [iI_zero, iI_len, iI_le, iI_lt, iI_eq, iI_add, iI_sub, iI_mul, Option.bind_some, iI_ite]
    rw [show 2 * Ob F N (p + 1) - p - 1 = Ex F N p by omega]
    exact ih f (p + 1) _ (by omega) (by omega) (by omega) (by split <;> omega) (by split <;> omega)
/-- what the reference's block comes to behind its loop -/
def bkR (N : Int) (d : Nat → Int32) (x1 x2 : Int32) (be e m M : Int) : Option Int32 :=
  if x2 = iI 0 then (if x1 = iI 0 then some (iI 0) else (mX5_excess (iI N) d (iI (be - 1))).bind fun r9 => some r9) else (if x2 = iI 1 then some (iI m) else (if x2 = iI 2 then some (iI M) else (if x2 = iI 3 then some (iI (e - be)) else some (iI (-2)))))
theorem block_71 (T : TR N F G (iI N) d lb) (wi x1 x2 : Int32) (be e : Int) (he : e ≤ 2 * N) : ∀ (k f : Nat) (p m M : Int), k < f → 0 ≤ p → p + k = e → 0 ≤ m → m ≤ 100 → 0 ≤ M → M ≤ 100 → mX5_block_71 f (iI N) d wi x1 x2 (iI be) (iI e) (iI m) (iI M) (iI p) = bkR N d x1 x2 be e (Mi F N k p m) (Ma F N k p M) := by
  have hN := T.1.nn
  intro k
  induction k with
  | zero =>
    intro f p m M hf h0 hx hm hm2 hM hM2
    obtain ⟨f, rfl⟩ : ∃ g, f = g + 1 := ⟨f - 1, by omega⟩
    rw [mX5_block_71, Mi, Ma, bkR]
    simp (disch := omega) only [iI_zero, iI_len, iI_le, iI_lt, iI_eq, iI_add, iI_sub, iI_mul, Option.bind_some]
    rw [if_pos (by omega)]
  | succ k ih =>
    intro f p m M hf h0 hx hm hm2 hM hM2
    obtain ⟨f, rfl⟩ : ∃ g, f = g + 1 := ⟨f - 1, by omega⟩
    have ex := T.1.ex p h0 (by omega)
    rw [mX5_block_71, Mi, Ma, excessOf T p h0 (by omega)]
    simp (disch := omega) only [iI_zero, iI_len, iI_le, iI_lt, iI_eq, iI_add, iI_sub, iI_mul, Option.bind_some]
    rw [if_neg (by omega)]
    by_cases c : m ≤ Ex F N p
    · rw [if_pos c, if_neg (by omega : ¬ Ex F N p < m)]
      by_cases g : Ex F N p ≤ M
      · rw [if_pos g, if_neg (by omega : ¬ M < Ex F N p)]
        exact ih f (p + 1) m M (by omega) (by omega) (by omega) hm hm2 hM hM2
      · rw [if_neg g, if_pos (by omega : M < Ex F N p)]
        exact ih f (p + 1) m _ (by omega) (by omega) (by omega) hm hm2 ex.1 ex.2
    · rw [if_neg c, if_pos (by omega : Ex F N p < m)]
      by_cases g : Ex F N p ≤ M
      · rw [if_pos g, if_neg (by omega : ¬ M < Ex F N p)]
        exact ih f (p + 1) _ M (by omega) (by omega) (by omega) ex.1 ex.2 hM hM2
      · rw [if_neg g, if_pos (by omega : M < Ex F N p)]
        exact ih f (p + 1) _ _ (by omega) (by omega) (by omega) ex.1 ex.2 ex.1 ex.2
theorem iI_div {a b : Int} (h1 : 0 ≤ a) (h2 : a < 2147483648) (h3 : 0 < b) (h4 : b < 2147483648) : iI a / iI b = iI (a / b) := by
  have ea : a = ((a.toNat : Nat) : Int) := by omega
  have eb : b = ((b.toNat : Nat) : Int) := by omega
  rw [ea, eb, iI_nat, iI_nat, pk_div (by omega) (by omega) (by omega), ← Int.natCast_ediv, iI_nat]
/-- number of blocks -/
def Bk (N w : Int) : Int := (2 * N + w - 1) / w
theorem Bk_bd (N w : Int) (h : 1 ≤ N) (h2 : N ≤ 100) (h3 : 4 ≤ w) (h4 : w ≤ 32) : 1 ≤ Bk N w ∧ Bk N w ≤ 300 := by
  unfold Bk
  constructor
  · rw [Int.le_ediv_iff_mul_le (by omega)]; omega
  · have : (2 * N + w - 1) / w ≤ 2 * N + w - 1 := Int.ediv_le_self _ (by omega)
    omega
theorem Bk_in (N w k : Int) (h3 : 4 ≤ w) (h5 : 0 ≤ k) (h6 : k < Bk N w) : 0 ≤ k * w ∧ k * w < 2 * N := by
  have : k + 1 ≤ Bk N w := by omega
  unfold Bk at this
  rw [Int.le_ediv_iff_mul_le (by omega), Int.add_mul, Int.one_mul] at this
  have := Int.mul_nonneg h5 (by omega : 0 ≤ w)
  omega
theorem countForOf (N w : Int) (h : 1 ≤ N) (h2 : N ≤ 100) (h3 : 4 ≤ w) (h4 : w ≤ 32) : mX0_countFor (iI N) (iI w) = some (iI (Bk N w)) := by
  unfold mX0_countFor mX3_positionCount
  simp only [iMax]
  simp (disch := omega) only [iI_zero, iI_len, iI_le, iI_lt, iI_eq, iI_add, iI_sub, iI_mul, Option.bind_some, iI_ite]
  rw [if_neg (by omega : ¬ w < 4), if_pos (by omega)]
  rw [iI_div (by omega) (by omega) (by omega) (by omega), Bk]
theorem blocksOf (N w : Int) (h : 1 ≤ N) (h2 : N ≤ 100) (h3 : 4 ≤ w) (h4 : w ≤ 32) : mX5_blocks (iI N) (iI w) = some (iI (Bk N w)) := by
  unfold mX5_blocks
  simp (disch := omega) only [iI_zero, iI_len, iI_le, iI_lt, iI_eq, iI_add, iI_sub, iI_mul, Option.bind_some]
  rw [if_pos (by omega)]
  rw [iI_div (by omega) (by omega) (by omega) (by omega), Bk]
/-- levels of the reference -/
theorem level_cnt (T : TR N F G (iI N) d lb) (e : Int) (he : -2147483648 ≤ e) (he2 : e < 2147483648) : ∀ (k f : Nat) (c x : Int), k < f → 0 ≤ x → x + k = N → 0 ≤ c → c + k ≤ 1000 → mX5_level_17 f (iI N) d (iI e) (iI (-1)) (iI c) (iI x) = some (iI (c + cnt (fun y => decide (F y = e)) k x)) := by
  have hN := T.1.nn
  intro k
  induction k with
  | zero =>
    intro f c x hf h0 hx hc hc2
    obtain ⟨f, rfl⟩ : ∃ g, f = g + 1 := ⟨f - 1, by omega⟩
    rw [mX5_level_17, cnt]
    simp (disch := omega) only [iI_zero, iI_len, iI_le, iI_lt, iI_eq, iI_add, iI_sub, iI_mul, Option.bind_some]
    rw [if_pos (by omega), if_neg (by omega), Int.add_zero]
  | succ k ih =>
    intro f c x hf h0 hx hc hc2
    obtain ⟨f, rfl⟩ : ∃ g, f = g + 1 := ⟨f - 1, by omega⟩
    have b := T.1.bd x
    rw [mX5_level_17]
    simp (disch := omega) only [iI_zero, iI_len, iI_le, iI_lt, iI_eq, iI_add, iI_sub, iI_mul, Option.bind_some, gdi, dAt T]
    rw [if_neg (by omega)]
    by_cases g : F x = e
    · rw [if_pos g, if_neg (by omega), cnt_yes (by simpa using g), ih f (c + 1) (x + 1) (by omega) (by omega) (by omega) (by omega) (by omega), ← Int.add_assoc]
    · rw [if_neg g, cnt_no (by simpa using g), ih f c (x + 1) (by omega) (by omega) (by omega) (by omega) (by omega)]
theorem level_kth (T : TR N F G (iI N) d lb) (e j : Int) (he : -2147483648 ≤ e) (he2 : e < 2147483648) (hj : 0 ≤ j) (hj2 : j < 2147483648) : ∀ (k f : Nat) (c x : Int), k < f → 0 ≤ x → x + k = N → 0 ≤ c → c + k ≤ 1000 → mX5_level_17 f (iI N) d (iI e) (iI j) (iI c) (iI x) = some (iI (kth (fun y => decide (F y = e)) (-5) k x (j - c))) := by
  have hN := T.1.nn
  intro k
  induction k with
  | zero =>
    intro f c x hf h0 hx hc hc2
    obtain ⟨f, rfl⟩ : ∃ g, f = g + 1 := ⟨f - 1, by omega⟩
    rw [mX5_level_17, kth]
    simp (disch := omega) only [iI_zero, iI_len, iI_le, iI_lt, iI_eq, iI_add, iI_sub, iI_mul, Option.bind_some]
    rw [if_pos (by omega), if_pos (by omega)]
  | succ k ih =>
    intro f c x hf h0 hx hc hc2
    obtain ⟨f, rfl⟩ : ∃ g, f = g + 1 := ⟨f - 1, by omega⟩
    have b := T.1.bd x
    rw [mX5_level_17]
    simp (disch := omega) only [iI_zero, iI_len, iI_le, iI_lt, iI_eq, iI_add, iI_sub, iI_mul, Option.bind_some, gdi, dAt T]
    rw [if_neg (by omega)]
    by_cases g : F x = e
    · rw [if_pos g]
      by_cases q : c = j
      · rw [if_pos q, kth_here (by simpa using g) (by omega)]
      · rw [if_neg q, kth_yes (by simpa using g) (by omega), ih f (c + 1) (x + 1) (by omega) (by omega) (by omega) (by omega) (by omega), show j - (c + 1) = j - c - 1 by omega]
    · rw [if_neg g, kth_no (by simpa using g), ih f c (x + 1) (by omega) (by omega) (by omega) (by omega) (by omega)]
theorem byPostorder_2 (T : TR N F G (iI N) d lb) (r : Int) (hr : -2147483648 ≤ r) (hr2 : r < 2147483648) : ∀ (k f : Nat) (x : Int), k < f → 0 ≤ x → x + k = N → mX5_byPostorder_2 f (iI N) d (iI r) (iI x) = some (iI (orElse N (fst (fun y => decide (Rk F N y = r)) k x) (-2))) := by
  have hN := T.1.nn
  intro k
  induction k with
  | zero =>
    intro f x hf h0 hx
    obtain ⟨f, rfl⟩ : ∃ g, f = g + 1 := ⟨f - 1, by omega⟩
    rw [mX5_byPostorder_2, fst]
    simp (disch := omega) only [iI_zero, iI_len, iI_le, iI_lt, iI_eq, iI_add, iI_sub, iI_mul, Option.bind_some]
    rw [if_pos (by omega), orElse, if_pos (by omega)]
  | succ k ih =>
    intro f x hf h0 hx
    obtain ⟨f, rfl⟩ : ∃ g, f = g + 1 := ⟨f - 1, by omega⟩
    have b := T.1.rk x h0 (by omega)
    have ih := ih f (x + 1) (by omega) (by omega) (by omega)
    rw [mX5_byPostorder_2, rankOf' T x h0 (by omega)]
    simp (disch := omega) only [iI_zero, iI_len, iI_le, iI_lt, iI_eq, iI_add, iI_sub, iI_mul, Option.bind_some]
    rw [if_neg (by omega)]
    by_cases c : Rk F N x = r
    · rw [if_pos c, fst_yes (by simpa using c), orElse, if_neg (by omega)]
    · rw [if_neg c, fst_no (by simpa using c)]
      exact ih
theorem deepest_14 (T : TR N F G (iI N) d lb) (v : Int) (hv : 0 ≤ v) (hv2 : v < N) : ∀ (k f : Nat) (c x : Int), k < f → 0 ≤ x → x + k = En F N v → 0 ≤ c → c < N → mX5_deepest_14 f (iI N) d (iI v) (iI c) (iI x) = some (iI (Am F k x c)) := by
  have hN := T.1.nn
  have ev := T.1.en v hv hv2
  intro k
  induction k with
  | zero =>
    intro f c x hf h0 hx hc hc2
    obtain ⟨f, rfl⟩ : ∃ g, f = g + 1 := ⟨f - 1, by omega⟩
    rw [mX5_deepest_14, Am, behindOf T v hv hv2]
    simp (disch := omega) only [iI_zero, iI_len, iI_le, iI_lt, iI_eq, iI_add, iI_sub, iI_mul, Option.bind_some]
    rw [if_pos (by omega)]
  | succ k ih =>
    intro f c x hf h0 hx hc hc2
    obtain ⟨f, rfl⟩ : ∃ g, f = g + 1 := ⟨f - 1, by omega⟩
    have b := T.1.bd x
    have b2 := T.1.bd c
    rw [mX5_deepest_14, Am, behindOf T v hv hv2]
    simp (disch := omega) only [iI_zero, iI_len, iI_le, iI_lt, iI_eq, iI_add, iI_sub, iI_mul, Option.bind_some, gdi, dAt T]
    rw [if_neg (by omega)]
    by_cases g : F c < F x
    · rw [if_neg (by omega), if_pos g, ih f x (x + 1) (by omega) (by omega) (by omega) (by omega) (by omega)]
    · rw [if_pos (by omega), if_neg g, ih f c (x + 1) (by omega) (by omega) (by omega) (by omega) (by omega)]
theorem find_cnt (T : TR N F G (iI N) d lb) (v g : Int) (hv : 0 ≤ v) (hv2 : v < N) (hg : -2147483648 ≤ g) (hg2 : g < 2147483648) : ∀ (k f : Nat) (c x : Int), k < f → 0 ≤ x → x + k = En F N v → 0 ≤ c → c + k ≤ 1000 → mX5_find_6 f (iI N) d lb (iI v) (iI g) (iI (-1)) (iI c) (iI x) = some (iI (c + cnt (fun y => decide (G y = g)) k x)) := by
  have hN := T.1.nn
  have ev := T.1.en v hv hv2
  intro k
  induction k with
  | zero =>
    intro f c x hf h0 hx hc hc2
    obtain ⟨f, rfl⟩ : ∃ g, f = g + 1 := ⟨f - 1, by omega⟩
    rw [mX5_find_6, cnt, behindOf T v hv hv2]
    simp (disch := omega) only [iI_zero, iI_len, iI_le, iI_lt, iI_eq, iI_add, iI_sub, iI_mul, Option.bind_some]
    rw [if_pos (by omega), if_neg (by omega), Int.add_zero]
  | succ k ih =>
    intro f c x hf h0 hx hc hc2
    obtain ⟨f, rfl⟩ : ∃ g, f = g + 1 := ⟨f - 1, by omega⟩
    have b := T.1.lab x h0 (by omega)
    rw [mX5_find_6, behindOf T v hv hv2]
    simp (disch := omega) only [iI_zero, iI_len, iI_le, iI_lt, iI_eq, iI_add, iI_sub, iI_mul, Option.bind_some, gdi, lAt T]
    rw [if_neg (by omega)]
    by_cases q : G x = g
    · rw [if_pos q, if_neg (by omega), cnt_yes (by simpa using q), ih f (c + 1) (x + 1) (by omega) (by omega) (by omega) (by omega) (by omega), ← Int.add_assoc]
    · rw [if_neg q, cnt_no (by simpa using q), ih f c (x + 1) (by omega) (by omega) (by omega) (by omega) (by omega)]
theorem find_kth (T : TR N F G (iI N) d lb) (v g j : Int) (hv : 0 ≤ v) (hv2 : v < N) (hg : -2147483648 ≤ g) (hg2 : g < 2147483648) (hj : 0 ≤ j) (hj2 : j < 2147483648) : ∀ (k f : Nat) (c x : Int), k < f → 0 ≤ x → x + k = En F N v → 0 ≤ c → c + k ≤ 1000 → mX5_find_6 f (iI N) d lb (iI v) (iI g) (iI j) (iI c) (iI x) = some (iI (kth (fun y => decide (G y = g)) (-5) k x (j - c))) := by
  have hN := T.1.nn
  have ev := T.1.en v hv hv2
  intro k
  induction k with
  | zero =>
    intro f c x hf h0 hx hc hc2
    obtain ⟨f, rfl⟩ : ∃ g, f = g + 1 := ⟨f - 1, by omega⟩
    rw [mX5_find_6, kth, behindOf T v hv hv2]
    simp (disch := omega) only [iI_zero, iI_len, iI_le, iI_lt, iI_eq, iI_add, iI_sub, iI_mul, Option.bind_some]
    rw [if_pos (by omega), if_pos (by omega)]
  | succ k ih =>
    intro f c x hf h0 hx hc hc2
    obtain ⟨f, rfl⟩ : ∃ g, f = g + 1 := ⟨f - 1, by omega⟩
    have b := T.1.lab x h0 (by omega)
    rw [mX5_find_6, behindOf T v hv hv2]
    simp (disch := omega) only [iI_zero, iI_len, iI_le, iI_lt, iI_eq, iI_add, iI_sub, iI_mul, Option.bind_some, gdi, lAt T]
    rw [if_neg (by omega)]
    by_cases q : G x = g
    · rw [if_pos q]
      by_cases t : c = j
      · rw [if_pos t, kth_here (by simpa using q) (by omega)]
      · rw [if_neg t, kth_yes (by simpa using q) (by omega), ih f (c + 1) (x + 1) (by omega) (by omega) (by omega) (by omega) (by omega), show j - (c + 1) = j - c - 1 by omega]
    · rw [if_neg q, kth_no (by simpa using q), ih f c (x + 1) (by omega) (by omega) (by omega) (by omega) (by omega)]
theorem Fa_skip (F G : Int → Int) (g : Int) : ∀ (j k : Nat) (x e : Int), (∀ y, x - j < y → y ≤ x → e ≤ F y) → Fa F G g (j + k) x e = Fa F G g k (x - j) e
  | 0, k, x, e, _ => by rw [Nat.zero_add]; simp
  | j + 1, k, x, e, h => by
    rw [show j + 1 + k = (j + k) + 1 by omega, Fa, if_pos (h x (by omega) (by omega)), Fa_skip F G g j k (x - 1) e (fun y g1 g2 => h y (by omega) (by omega))]
    rw [show x - 1 - (j : Int) = x - ((j + 1 : Nat) : Int) by omega]
theorem TV.faPa (T : TV N F G) (g v : Int) (h : 0 ≤ v) (h2 : v < N) : Fa F G g v.toNat (v - 1) (F v) = if Pa F v < 0 then -5 else (if G (Pa F v) = g then Pa F v else Fa F G g (Pa F v).toNat (Pa F v - 1) (F (Pa F v))) := by
  by_cases c : v = 0
  · rw [c, Pa, if_pos rfl, if_pos (by omega)]
    rfl
  · have p := T.paSpec v (by omega) h2
    rw [if_neg (by omega), show v.toNat = (v - 1 - Pa F v).toNat + ((Pa F v).toNat + 1) by omega, Fa_skip F G g _ _ (v - 1) (F v) (fun y g1 g2 => p.2.2.2 y (by omega) (by omega)), show v - 1 - ((v - 1 - Pa F v).toNat : Int) = Pa F v by omega, Fa, if_neg (by omega)]
theorem ancestorWith_26 (T : TR N F G (iI N) d lb) (a : Int32) (g : Int) (hg : -2147483648 ≤ g) (hg2 : g < 2147483648) : ∀ (k f : Nat) (s : Int), s < k → k < f → (s = -5 ∨ 0 ≤ s) → s < N → mX5_ancestorWith_26 f (iI N) d lb a (iI g) (iI s) = some (iI (if s < 0 then -5 else (if G s = g then s else Fa F G g s.toNat (s - 1) (F s)))) := by
  have hN := T.1.nn
  intro k
  induction k with
  | zero =>
    intro f s hs hf hs2 hs3
    obtain ⟨f, rfl⟩ : ∃ g, f = g + 1 := ⟨f - 1, by omega⟩
    rw [mX5_ancestorWith_26]
    simp (disch := omega) only [iI_zero, iI_len, iI_le, iI_lt, iI_eq, iI_add, iI_sub, iI_mul, Option.bind_some]
    rw [if_pos (by omega), if_neg (by omega), if_pos (by omega)]
  | succ k ih =>
    intro f s hs hf hs2 hs3
    obtain ⟨f, rfl⟩ : ∃ g, f = g + 1 := ⟨f - 1, by omega⟩
    rw [mX5_ancestorWith_26]
    by_cases c : s < 0
    · simp (disch := omega) only [iI_zero, iI_len, iI_le, iI_lt, iI_eq, iI_add, iI_sub, iI_mul, Option.bind_some]
      rw [if_pos c, if_neg (by omega), if_pos c]
    · have b := T.1.lab s (by omega) hs3
      rw [mparentOf T s (by omega) hs3]
      simp (disch := omega) only [iI_zero, iI_len, iI_le, iI_lt, iI_eq, iI_add, iI_sub, iI_mul, Option.bind_some, gdi, lAt T]
      rw [if_neg c, if_neg c]
      by_cases q : G s = g
      · rw [if_pos q, if_pos (by omega), if_pos q]
      · have pr : Pa F s = -5 ∨ 0 ≤ Pa F s ∧ Pa F s < s := by
          by_cases t : s = 0
          · left; rw [Pa, if_pos t]
          · right; have p := T.1.paSpec s (by omega) hs3; exact ⟨p.1, p.2.1⟩
        rw [if_neg q, if_neg q, T.1.faPa g s (by omega) hs3]
        exact ih f (Pa F s) (by omega) (by omega) (by omega) (by omega)
theorem alike_0 (a b : Int32) (m i : Int32) (f : Nat) : mX5_alike_29 (f + 1) (iI N) d lb a b m (iI 0) i = some (iI 0) := by
  rw [mX5_alike_29]
  by_cases c : m ≤ i
  · rw [if_pos c, if_pos (Or.inl rfl)]
  · rw [if_neg c, if_pos iI_zero.symm, if_pos (Or.inl rfl)]
theorem alike_29 (T : TR N F G (iI N) d lb) (v w m : Int) (hv : 0 ≤ v) (hw : 0 ≤ w) (hv2 : v + m ≤ N) (hw2 : w + m ≤ N) : ∀ (k f : Nat) (i : Int), k < f → 0 ≤ i → i + k = m → mX5_alike_29 f (iI N) d lb (iI v) (iI w) (iI m) (iI 1) (iI i) = some (iI (if Ss F G v w k i = true then 1 else 0)) := by
  have hN := T.1.nn
  intro k
  induction k with
  | zero =>
    intro f i hf h0 hx
    obtain ⟨f, rfl⟩ : ∃ g, f = g + 1 := ⟨f - 1, by omega⟩
    rw [mX5_alike_29, Ss, if_pos (by rw [iI_le (by omega) (by omega) (by omega) (by omega)]; omega), if_pos (Or.inr rfl), if_pos rfl]
  | succ k ih =>
    intro f i hf h0 hx
    obtain ⟨f, rfl⟩ : ∃ g, f = g + 1 := ⟨f - 1, by omega⟩
    have bv := T.1.bd v
    have bw := T.1.bd w
    have b1 := T.1.bd (v + i)
    have b2 := T.1.bd (w + i)
    have c1 := T.1.lab (v + i) (by omega) (by omega)
    have c2 := T.1.lab (w + i) (by omega) (by omega)
    obtain ⟨f, rfl⟩ : ∃ g, f = g + 1 := ⟨f - 1, by omega⟩
    have ih := ih (f + 1) (i + 1) (by omega) (by omega) (by omega)
    rw [mX5_alike_29, Ss, if_neg (by rw [iI_le (by omega) (by omega) (by omega) (by omega)]; omega), if_neg (by rw [iI_zero, iI_eq (by omega) (by omega) (by omega) (by omega)]; omega), alike_0, iI_add i 1, ih]
    simp only [iI_add]
    simp (disch := omega) only [gdi, dAt T, lAt T, iI_sub, iI_eq]
    by_cases q : G (v + i) = G (w + i)
    · rw [if_pos q]
      by_cases t : F (v + i) - F v = F (w + i) - F w
      · rw [if_pos t]
        simp [q, t]
      · rw [if_neg t]
        simp [t]
    · rw [if_neg q]
      simp [q]
theorem alikeOf (T : TR N F G (iI N) d lb) (v w : Int) (hv : 0 ≤ v) (hv2 : v < N) (hw : 0 ≤ w) (hw2 : w < N) : mX5_alike (iI N) d lb (iI v) (iI w) = some (iI (if Eq2 F G N v w = true then 1 else 0)) := by
  have hN := T.1.nn
  have ev := T.1.en v hv hv2
  have ew := T.1.en w hw hw2
  unfold mX5_alike Eq2
  rw [behindOf T v hv hv2, behindOf T w hw hw2]
  simp (disch := omega) only [iI_zero, iI_len, iI_le, iI_lt, iI_eq, iI_add, iI_sub, iI_mul, Option.bind_some]
  by_cases c : En F N w - w = En F N v - v
  · rw [if_pos c, alike_29 T v w _ hv hw (by omega) (by omega) (En F N v - v).toNat _ 0 (by rw [FU_big]; omega) (by omega) (by omega)]
    simp [c]
  · rw [if_neg c, FU_big, alike_0]
    simp [c]
theorem copies_14 (T : TR N F G (iI N) d lb) (v : Int) (hv : 0 ≤ v) (hv2 : v < N) : ∀ (k f : Nat) (c x : Int), k < f → 0 ≤ x → x + k = N → 0 ≤ c → c + k ≤ 1000 → mX5_copies_14 f (iI N) d lb (iI v) (iI c) (iI x) = some (iI (c + cnt (Eq2 F G N v) k x)) := by
  have hN := T.1.nn
  intro k
  induction k with
  | zero =>
    intro f c x hf h0 hx hc hc2
    obtain ⟨f, rfl⟩ : ∃ g, f = g + 1 := ⟨f - 1, by omega⟩
    rw [mX5_copies_14, cnt]
    simp (disch := omega) only [iI_zero, iI_len, iI_le, iI_lt, iI_eq, iI_add, iI_sub, iI_mul, Option.bind_some]
    rw [if_pos (by omega), Int.add_zero]
  | succ k ih =>
    intro f c x hf h0 hx hc hc2
    obtain ⟨f, rfl⟩ : ∃ g, f = g + 1 := ⟨f - 1, by omega⟩
    rw [mX5_copies_14, alikeOf T v x hv hv2 h0 (by omega)]
    by_cases q : Eq2 F G N v x = true
    · rw [if_pos q, cnt_yes q]
      simp (disch := omega) only [iI_zero, iI_len, iI_le, iI_lt, iI_eq, iI_add, iI_sub, iI_mul, Option.bind_some]
      rw [if_neg (by omega), if_neg (by omega), ih f (c + 1) (x + 1) (by omega) (by omega) (by omega) (by omega) (by omega), ← Int.add_assoc]
    · rw [if_neg q, cnt_no q]
      simp (disch := omega) only [iI_zero, iI_len, iI_le, iI_lt, iI_eq, iI_add, iI_sub, iI_mul, Option.bind_some]
      rw [if_neg (by omega), if_pos trivial, Int.add_zero, ih f c (x + 1) (by omega) (by omega) (by omega) (by omega) (by omega)]
theorem written_len (T : TR N F G (iI N) d lb) : ∀ (k f : Nat) (c x : Int), k < f → 0 ≤ x → x + k = N → 0 ≤ c → c + 100 * k ≤ 100000 → mX5_written_12 f (iI N) d lb (iI (-1)) (iI c) (iI x) = some (iI (c + Wl F k x)) := by
  have hN := T.1.nn
  intro k
  induction k with
  | zero =>
    intro f c x hf h0 hx hc hc2
    obtain ⟨f, rfl⟩ : ∃ g, f = g + 1 := ⟨f - 1, by omega⟩
    rw [mX5_written_12, Wl]
    simp (disch := omega) only [iI_zero, iI_len, iI_le, iI_lt, iI_eq, iI_add, iI_sub, iI_mul, Option.bind_some]
    rw [if_pos (by omega), if_neg (by omega), Int.add_zero]
  | succ k ih =>
    intro f c x hf h0 hx hc hc2
    obtain ⟨f, rfl⟩ : ∃ g, f = g + 1 := ⟨f - 1, by omega⟩
    have b := T.1.bd x
    have b1 := T.1.bd (x + 1)
    have s := T.1.sg x
    rw [mX5_written_12, Wl, misLeafOf T x h0 (by omega), nextDepthOf T x h0 (by omega)]
    have r := ih f (c + (1 + Sg F x)) (x + 1) (by omega) (by omega) (by omega) (by omega) (by omega)
    by_cases q : Lf F x = true
    · have e : Sg F x = F x - F (x + 1) := by rw [Sg, if_pos q]
      rw [if_pos q]
      simp (disch := omega) only [iI_zero, iI_len, iI_le, iI_lt, iI_eq, iI_add, iI_sub, iI_mul, Option.bind_some, gdi, dAt T]
      rw [if_neg (by omega), if_neg (by omega), if_neg (by omega), if_pos (by omega), show c + 1 + (F x - F (x + 1)) = c + (1 + Sg F x) by omega, r, Int.add_assoc c]
    · have e : Sg F x = 1 := by rw [Sg, if_neg q]
      rw [if_neg q]
      simp (disch := omega) only [iI_zero, iI_len, iI_le, iI_lt, iI_eq, iI_add, iI_sub, iI_mul, Option.bind_some]
      rw [if_neg (by omega), if_neg (by omega), if_pos trivial, if_neg (by omega), show c + 1 + 1 = c + (1 + Sg F x) by omega, r, Int.add_assoc c]
theorem written_at (T : TR N F G (iI N) d lb) (q : Int) (hq : 0 ≤ q) (hq2 : q < 2147483648) : ∀ (k f : Nat) (s x : Int), k < f → 0 ≤ x → x + k = N → 0 ≤ s → s ≤ q → s + 100 * k ≤ 100000 → mX5_written_12 f (iI N) d lb (iI q) (iI s) (iI x) = some (iI (Wa F G q k s x)) := by
  have hN := T.1.nn
  intro k
  induction k with
  | zero =>
    intro f s x hf h0 hx hc hsq hc2
    obtain ⟨f, rfl⟩ : ∃ g, f = g + 1 := ⟨f - 1, by omega⟩
    rw [mX5_written_12, Wa]
    simp (disch := omega) only [iI_zero, iI_len, iI_le, iI_lt, iI_eq, iI_add, iI_sub, iI_mul, Option.bind_some]
    rw [if_pos (by omega), if_pos (by omega)]
  | succ k ih =>
    intro f s x hf h0 hx hc hsq hc2
    obtain ⟨f, rfl⟩ : ∃ g, f = g + 1 := ⟨f - 1, by omega⟩
    have b := T.1.bd x
    have b1 := T.1.bd (x + 1)
    have sg := T.1.sg x
    rw [mX5_written_12, Wa, misLeafOf T x h0 (by omega), nextDepthOf T x h0 (by omega)]
    by_cases c : q = s
    · rw [if_pos c]
      simp (disch := omega) only [iI_zero, iI_len, iI_le, iI_lt, iI_eq, iI_add, iI_sub, iI_mul, Option.bind_some, gdi, lAt T]
      rw [if_neg (by omega), if_pos c.symm]
    · rw [if_neg c]
      by_cases l : Lf F x = true
      · have e : Sg F x = F x - F (x + 1) := by rw [Sg, if_pos l]
        rw [if_pos l, if_pos l]
        simp (disch := omega) only [iI_zero, iI_len, iI_le, iI_lt, iI_eq, iI_add, iI_sub, iI_mul, Option.bind_some, gdi, dAt T]
        rw [if_neg (by omega), if_neg (by omega), if_neg (by omega), if_neg (by omega), show s + 1 + (F x - F (x + 1)) = s + 1 + Sg F x by omega]
        by_cases t : s + 1 + Sg F x ≤ q
        · rw [if_pos t, if_pos t, ih f _ (x + 1) (by omega) (by omega) (by omega) (by omega) t (by omega)]
        · rw [if_neg t, if_neg t]
      · have e : Sg F x = 1 := by rw [Sg, if_neg l]
        rw [if_neg l, if_neg l]
        simp (disch := omega) only [iI_zero, iI_len, iI_le, iI_lt, iI_eq, iI_add, iI_sub, iI_mul, Option.bind_some]
        rw [if_neg (by omega), if_neg (by omega), if_pos trivial]
        by_cases t : s + 1 + Sg F x ≤ q
        · rw [if_neg (by omega), if_pos t, show s + 1 + 1 = s + 1 + Sg F x by omega, ih f _ (x + 1) (by omega) (by omega) (by omega) (by omega) t (by omega)]
        · rw [if_pos (by omega), if_neg t]
/-- binary digits -/
def dg : Nat → Int → Int
  | 0, _ => 0
  | k + 1, l => if l ≤ 0 then 0 else 1 + dg k (l / 2)
theorem dg_bd : ∀ (k : Nat) (l : Int), 0 ≤ dg k l ∧ dg k l ≤ k
  | 0, _ => by simp [dg]
  | k + 1, l => by
    have a := dg_bd k (l / 2)
    rw [dg]
    split <;> omega
theorem digits_all : ∀ k : Nat, k < 101 → 1 ≤ k → mX4_binaryDigits (iI k) = some (iI (dg 10 k)) := by decide +kernel
theorem digitsOf (N : Int) (h : 1 ≤ N) (h2 : N ≤ 100) : mX4_binaryDigits (iI N) = some (iI (dg 10 N)) := by
  have := digits_all N.toNat (by omega) (by omega)
  rw [show ((N.toNat : Nat) : Int) = N by omega] at this
  exact this
/-- what the reference's space comes to behind its loop -/
def spR (N w g : Int) (x1 : Int32) : Option Int32 :=
  (if x1 = iI 0 then some (iI (2 * N)) else (if x1 = iI 1 then some (iI (5 * N)) else (if x1 = iI 2 then some (iI (3 * g * Bk N w)) else (if x1 = iI 3 then some (iI (7 * N + 3 * g * Bk N w)) else (if x1 = iI 4 then some (iI (Bk N w)) else some (iI (-2)))))))
theorem space_7 (N w : Int) (h : 1 ≤ N) (h2 : N ≤ 100) (h3 : 4 ≤ w) (h4 : w ≤ 32) (x1 : Int32) : ∀ (k f : Nat) (c l : Int), k < f → 0 ≤ l → l < 2 ^ k → l ≤ 1000 → mX5_space_7 f (iI N) (iI w) x1 (iI c) (iI l) = spR N w (c + dg k l) x1 := by
  intro k
  induction k with
  | zero =>
    intro f c l hf h0 hl hb
    obtain ⟨f, rfl⟩ : ∃ g, f = g + 1 := ⟨f - 1, by omega⟩
    have e : l = 0 := by have : l < 1 := hl; omega
    rw [mX5_space_7, blocksOf N w h h2 h3 h4, dg, Int.add_zero, spR, if_pos (by rw [iI_zero, iI_le (by omega) (by omega) (by omega) (by omega)]; omega)]
    simp (disch := omega) only [iI_zero, iI_len, iI_le, iI_lt, iI_eq, iI_add, iI_sub, iI_mul, Option.bind_some]
  | succ k ih =>
    intro f c l hf h0 hl hb
    obtain ⟨f, rfl⟩ : ∃ g, f = g + 1 := ⟨f - 1, by omega⟩
    rw [mX5_space_7, blocksOf N w h h2 h3 h4, dg]
    by_cases q : l ≤ 0
    · rw [if_pos q, Int.add_zero, spR, if_pos (by rw [iI_zero, iI_le (by omega) (by omega) (by omega) (by omega)]; omega)]
      simp (disch := omega) only [iI_zero, iI_len, iI_le, iI_lt, iI_eq, iI_add, iI_sub, iI_mul, Option.bind_some]
    · have r := ih f (c + 1) (l / 2) (by omega) (by omega) (by rw [Int.pow_succ] at hl; omega) (by omega)
      rw [if_neg q, if_neg (by rw [iI_zero, iI_le (by omega) (by omega) (by omega) (by omega)]; omega), if_pos (by rw [iI_zero, iI_eq (by omega) (by omega) (by omega) (by omega)]; omega), iI_div h0 (by omega) (by omega) (by omega), iI_add, r, ← Int.add_assoc]
end POS
