/-! 34 (out of whole's 14, 15, 20) -/
/-! 14: what the reference's readers answer, of a tree (N, F, G): the same words as the landed code's -/
theorem gdi {α : Type _} {z : Int} {n : Nat} {i : Decidable (inb (iI z) n)} {k : Option α} (h1 : 0 ≤ z) (h2 : z < n) (h3 : n < 100000) : @ite _ (inb (iI z) n) i k none = k := by
  rw [if_pos]
  rw [iI_inb (by omega) (by omega)]
  exact ⟨h1, h2⟩
section MREAD
variable {N : Int} {F G : Int → Int} {d lb : Nat → Int32}
theorem dAt (T : TR N F G (iI N) d lb) (z : Int) (h1 : 0 ≤ z) (h2 : z < N) : d (iI z).toNatClampNeg = iI (F z) := by
  have hN := T.1.nn
  rw [iI_ix h1 (by omega)]
  exact T.2.2.1 z h1 h2
theorem lAt (T : TR N F G (iI N) d lb) (z : Int) (h1 : 0 ≤ z) (h2 : z < N) : lb (iI z).toNatClampNeg = iI (G z) := by
  have hN := T.1.nn
  rw [iI_ix h1 (by omega)]
  exact T.2.2.2 z h1 h2
theorem Am_self (F : Int → Int) (k : Nat) (x : Int) : Am F (k + 1) x x = Am F k (x + 1) x := by
  rw [Am, if_neg (by omega)]
theorem Lc_skip (F : Int → Int) (N v : Int) : ∀ (j k : Nat) (x b m : Int), (∀ y, x ≤ y → y < x + j → F y ≠ F v + 1) → Lc F N v (j + k) x b m = Lc F N v k (x + j) b m
  | 0, k, x, b, m, _ => by rw [Nat.zero_add]; simp
  | j + 1, k, x, b, m, h => by
    rw [show j + 1 + k = (j + k) + 1 by omega, Lc, if_neg (h x (by omega) (by omega)), Lc_skip F N v j k (x + 1) b m (fun y g1 g2 => h y (by omega) (by omega))]
    rw [show x + 1 + (j : Int) = x + ((j + 1 : Nat) : Int) by omega]
theorem TV.upPa (T : TV N F G) (v e : Int) (h : 0 ≤ v) (h2 : v < N) (h3 : 0 ≤ e) (h4 : e < F v) : Up F v e = Up F (Pa F v) e := by
  have hv : v ≠ 0 := by intro q; rw [q, T.2.2.1] at h4; omega
  have p := T.paSpec v (by omega) h2
  have u := T.upSpec (Pa F v) e p.1 (by omega) h3 (by omega)
  exact T.upEq v e _ u.1 (by omega) u.2.2.1 (fun y g1 g2 => by
    by_cases q : y ≤ Pa F v
    · have := u.2.2.2 y q g2; omega
    · have := p.2.2.2 y g1 (by omega); omega)
theorem TV.upSelf (T : TV N F G) (v : Int) (h : 0 ≤ v) : Up F v (F v) = v := T.upEq v (F v) v h (Int.le_refl _) rfl (fun y g1 g2 => absurd g2 (by omega))
/-- what is common to two places: it holds both, and what lies between it and v doesn't -/
theorem TV.cm (T : TV N F G) (u z : Int) (h : 0 ≤ u) (h2 : u ≤ z) (h3 : z < N) : 0 ≤ Cm F u z ∧ Cm F u z ≤ u ∧ (∀ y, Cm F u z < y → y ≤ z → F (Cm F u z) < F y) ∧ (∀ x, Cm F u z < x → x ≤ u → ¬ (∀ y, x < y → y ≤ z → F x < F y)) := by
  obtain ⟨m1, m2, m3, m4⟩ := T.mn (z - u).toNat (u + 1) (F u) (by omega) (by omega) (T.bd u).1
  obtain ⟨u1, u2, u3, u4⟩ := T.upSpec u (Mn F (z - u).toNat (u + 1) (F u)) h (by omega) m1 m2
  have e : Cm F u z = Up F u (Mn F (z - u).toNat (u + 1) (F u)) := rfl
  rw [e]
  refine ⟨u1, u2, fun y g1 g2 => ?_, fun x g1 g2 g3 => ?_⟩
  · rw [u3]
    by_cases q : y ≤ u
    · exact u4 y q g1
    · have := m3 y (by omega) (by omega)
      omega
  · have a := u4 x g2 g1
    have b : F x ≤ F u := by
      by_cases q : x = u
      · rw [q]; exact Int.le_refl _
      · have := g3 u (by omega) h2; omega
    rcases m4 with q | ⟨y, q1, q2, q3⟩
    · omega
    · have := g3 y (by omega) (by omega)
      omega
end MREAD

/-! 15: positions of brackets, blocks; what is left of the reference's readers -/
section POS
variable {N : Int} {F G : Int → Int} {d lb : Nat → Int32}
theorem TV.opUp (T : TV N F G) (v w : Int) (h : 0 ≤ v) (h2 : v < w) : 2 * v - F v < 2 * w - F w := by
  have := T.climbs' v w h (by omega)
  omega
theorem TV.ob (T : TV N F G) (p : Int) : 0 ≤ Ob F N p ∧ Ob F N p ≤ N ∧ (∀ y, 0 ≤ y → y < Ob F N p → 2 * y - F y < p) ∧ (Ob F N p < N → p ≤ 2 * Ob F N p - F (Ob F N p)) := by
  have hN := T.nn
  obtain ⟨h1, h2, h3, h4⟩ := fst_spec (fun y => decide (p ≤ 2 * y - F y)) N.toNat 0
  refine ⟨h1, by unfold Ob; omega, fun y g1 g2 => ?_, fun g => ?_⟩
  · have := h3 y g1 g2
    simp only [decide_eq_false_iff_not] at this
    omega
  · have := h4 (by unfold Ob at g; omega)
    simpa [Ob] using this
theorem TV.obStep (T : TV N F G) (p : Int) : Ob F N (p + 1) = Ob F N p + if Ob F N p < N ∧ 2 * Ob F N p - F (Ob F N p) = p then 1 else 0 := by
  have hN := T.nn
  obtain ⟨h1, h2, h3, h4⟩ := T.ob p
  by_cases c : Ob F N p < N ∧ 2 * Ob F N p - F (Ob F N p) = p
  · rw [if_pos c]
    refine fst_eq _ _ _ _ (by omega) (by omega) (fun y g1 g2 => ?_) (fun g => ?_)
    · simp only [decide_eq_false_iff_not]
      by_cases q : y = Ob F N p
      · rw [q]; omega
      · have := h3 y g1 (by omega); omega
    · simp only [decide_eq_true_eq]
      have := T.opUp (Ob F N p) (Ob F N p + 1) h1 (by omega)
      omega
  · rw [if_neg c, Int.add_zero]
    refine fst_eq _ _ _ _ h1 (by omega) (fun y g1 g2 => ?_) (fun g => ?_)
    · simp only [decide_eq_false_iff_not]
      have := h3 y g1 g2; omega
    · simp only [decide_eq_true_eq]
      have := h4 (by omega)
      omega
/-- excess at a position -/
def Ex (F : Int → Int) (N p : Int) : Int := 2 * Ob F N (p + 1) - (p + 1)
/-- the node of a position -/
def Np (F : Int → Int) (N p : Int) : Int := if 2 * (Ob F N (p + 1) - 1) - F (Ob F N (p + 1) - 1) = p then Ob F N (p + 1) - 1 else Up F (Ob F N (p + 1) - 1) (2 * Ob F N (p + 1) - (p + 1))
theorem TV.np (T : TV N F G) (p : Int) (h : 0 ≤ p) (h2 : p < 2 * N) : 1 ≤ Ob F N (p + 1) ∧ 0 ≤ Np F N p ∧ Np F N p < N ∧
    ((2 * Np F N p - F (Np F N p) = p ∧ Ex F N p = F (Np F N p) + 1) ∨ ((∀ y, 0 ≤ y → y < N → 2 * y - F y ≠ p) ∧ 2 * En F N (Np F N p) - F (Np F N p) - 1 = p ∧ Ex F N p = F (Np F N p))) := by
  have hN := T.nn
  obtain ⟨o, ho⟩ : ∃ o, o = Ob F N (p + 1) := ⟨_, rfl⟩
  obtain ⟨h3, h4, h5, h6⟩ := T.ob (p + 1)
  have e0 := T.2.2.1
  rw [← ho] at h3 h4 h5 h6
  have o1 : 1 ≤ o := by
    by_cases q : o = 0
    · rw [q] at h6
      have := h6 (by omega)
      rw [e0] at this
      omega
    · omega
  refine ⟨by omega, ?_⟩
  unfold Np Ex
  rw [← ho]
  have hu := h5 (o - 1) (by omega) (by omega)
  by_cases c : 2 * (o - 1) - F (o - 1) = p
  · rw [if_pos c]
    exact ⟨by omega, by omega, Or.inl ⟨c, by omega⟩⟩
  · rw [if_neg c]
    have dl : 0 ≤ 2 * o - (p + 1) ∧ 2 * o - (p + 1) ≤ F (o - 1) ∧ F o ≤ 2 * o - (p + 1) := by
      have b := T.bd o
      by_cases q : o < N
      · have := h6 q
        omega
      · have := T.out o (by omega)
        omega
    obtain ⟨u1, u2, u3, u4⟩ := T.upSpec (o - 1) (2 * o - (p + 1)) (by omega) (by omega) dl.1 dl.2.1
    have en : En F N (Up F (o - 1) (2 * o - (p + 1))) = o := T.enEq _ _ u1 (by omega) (by omega) (by omega) (fun y g1 g2 => by have := u4 y (by omega) g1; omega) (by omega)
    refine ⟨u1, by omega, Or.inr ⟨fun y g1 g2 g3 => ?_, by rw [en]; omega, u3.symm⟩⟩
    rcases Int.lt_trichotomy y (o - 1) with q | q | q
    · have := T.opUp y (o - 1) g1 q; omega
    · rw [q] at g3; exact c g3
    · by_cases t : o < N
      · have := h6 t
        by_cases r : y = o
        · rw [r] at g3; omega
        · have := T.opUp o y (by omega) (by omega); omega
      · omega
theorem TV.ex (T : TV N F G) (p : Int) (h : 0 ≤ p) (h2 : p < 2 * N) : 0 ≤ Ex F N p ∧ Ex F N p ≤ 100 := by
  obtain ⟨a1, a2, a3, a4⟩ := T.np p h h2
  have b := T.bd (Np F N p)
  omega
theorem nodeOfPositionOf (T : TR N F G (iI N) d lb) (p : Int) (h : 0 ≤ p) (h2 : p < 2 * N) : mX3_nodeOfPosition (iI N) d (iI p) = some (iI (Np F N p)) := by
  have hN := T.1.nn
  obtain ⟨h3, h4, h5, h6⟩ := T.1.ob (p + 1)
  obtain ⟨a1, a2, a3, a4⟩ := T.1.np p h h2
  have b := T.1.bd (Ob F N (p + 1) - 1)
  unfold mX3_nodeOfPosition
  simp (disch := omega) only [iI_zero, iI_len, iI_le, iI_lt, iI_eq, iI_add, iI_sub, iI_mul, Option.bind_some]
  rw [openedBeforeOf T (p + 1) (by omega) (by omega), excessBeforeOf T (p + 1) (by omega) (by omega)]
  simp (disch := omega) only [iI_zero, iI_len, iI_le, iI_lt, iI_eq, iI_add, iI_sub, iI_mul, Option.bind_some]
  rw [openingOf' T _ (by omega) (by omega)]
  simp (disch := omega) only [iI_zero, iI_len, iI_le, iI_lt, iI_eq, iI_add, iI_sub, iI_mul, Option.bind_some]
  unfold Np
  by_cases c : 2 * (Ob F N (p + 1) - 1) - F (Ob F N (p + 1) - 1) = p
  · rw [if_pos c, if_pos c]
  · rw [if_neg c, if_neg c]
    have hu := h5 (Ob F N (p + 1) - 1) (by omega) (by omega)
    have dl : 0 ≤ 2 * Ob F N (p + 1) - (p + 1) := by
      by_cases q : Ob F N (p + 1) < N
      · have := h6 q
        have := T.1.bd (Ob F N (p + 1))
        omega
      · omega
    rw [climbIn T _ _ (by omega) (by omega) dl (by omega)]
    rfl
theorem TV.clNe (T : TV N F G) (v w : Int) (h : 0 ≤ v) (h2 : v < w) (h3 : w < N) : 2 * En F N v - F v ≠ 2 * En F N w - F w := by
  have ev := T.en v h (by omega)
  have ew := T.en w (by omega) h3
  by_cases c : w < En F N v
  · have f1 := ev.2.2.1 w h2 c
    have : En F N w ≤ En F N v := by
      by_cases q : En F N v < En F N w
      · have := ew.2.2.1 (En F N v) c q
        have := ev.2.2.2
        omega
      · omega
    omega
  · have := T.climbs' (En F N v) w (by omega) (by omega)
    have := ev.2.2.2
    omega
/-- blocks: least and greatest -/
def Mi (F : Int → Int) (N : Int) : Nat → Int → Int → Int
  | 0, _, m => m
  | k + 1, p, m => Mi F N k (p + 1) (if Ex F N p < m then Ex F N p else m)
def Ma (F : Int → Int) (N : Int) : Nat → Int → Int → Int
  | 0, _, m => m
  | k + 1, p, m => Ma F N k (p + 1) (if m < Ex F N p then Ex F N p else m)
theorem leastExcess_29 (T : TR N F G (iI N) d lb) (wi x2 : Int32) (e : Int) (he : e ≤ 2 * N) : ∀ (k f : Nat) (p m : Int), k < f → 0 ≤ p → p + k = e → 0 ≤ m → m ≤ 100 → mX0_leastExcess_29 f (iI N) d wi x2 (iI e) (iI (Ob F N p)) (iI m) (iI p) = some (iI (Mi F N k p m)) := by
  have hN := T.1.nn
  intro k
  induction k with
  | zero =>
    intro f p m hf h0 hx hm hm2
    obtain ⟨f, rfl⟩ : ∃ g, f = g + 1 := ⟨f - 1, by omega⟩
    rw [mX0_leastExcess_29, Mi]
    simp (disch := omega) only [iI_zero, iI_len, iI_le, iI_lt, iI_eq, iI_add, iI_sub, iI_mul, Option.bind_some]
    rw [if_pos (by omega)]
  | succ k ih =>
    intro f p m hf h0 hx hm hm2
    obtain ⟨f, rfl⟩ : ∃ g, f = g + 1 := ⟨f - 1, by omega⟩
    have o := T.1.ob p
    have st := T.1.obStep p
    have ex := T.1.ex p h0 (by omega)
    have exd : Ex F N p = 2 * Ob F N (p + 1) - (p + 1) := rfl
    have o2 := T.1.ob (p + 1)
    rw [mX0_leastExcess_29, opensAtOf T _ p (by omega) (by omega) (by omega) (by omega), Mi]
    simp (disch := omega) only [iI_zero, iI_len, iI_le, iI_lt, iI_eq, iI_add, iI_sub, iI_mul, Option.bind_some]
    rw [← st, if_neg (by omega)]
    simp only [iMin]
    simp (disch := omega) only [iI_zero, iI_len, iI_le, iI_lt, iI_eq, iI_add, iI_sub, iI_mul, Option.bind_some, iI_ite]
    rw [show 2 * Ob F N (p + 1) - p - 1 = Ex F N p by omega]
    exact ih f (p + 1) _ (by omega) (by omega) (by omega) (by split <;> omega) (by split <;> omega)
theorem greatestExcess_28 (T : TR N F G (iI N) d lb) (wi x2 : Int32) (e : Int) (he : e ≤ 2 * N) : ∀ (k f : Nat) (p m : Int), k < f → 0 ≤ p → p + k = e → 0 ≤ m → m ≤ 100 → mX0_greatestExcess_28 f (iI N) d wi x2 (iI e) (iI (Ob F N p)) (iI m) (iI p) = some (iI (Ma F N k p m)) := by
  have hN := T.1.nn
  intro k
  induction k with
  | zero =>
    intro f p m hf h0 hx hm hm2
    obtain ⟨f, rfl⟩ : ∃ g, f = g + 1 := ⟨f - 1, by omega⟩
    rw [mX0_greatestExcess_28, Ma]
    simp (disch := omega) only [iI_zero, iI_len, iI_le, iI_lt, iI_eq, iI_add, iI_sub, iI_mul, Option.bind_some]
    rw [if_pos (by omega)]
  | succ k ih =>
    intro f p m hf h0 hx hm hm2
    obtain ⟨f, rfl⟩ : ∃ g, f = g + 1 := ⟨f - 1, by omega⟩
    have o := T.1.ob p
    have st := T.1.obStep p
    have ex := T.1.ex p h0 (by omega)
    have exd : Ex F N p = 2 * Ob F N (p + 1) - (p + 1) := rfl
    have o2 := T.1.ob (p + 1)
    rw [mX0_greatestExcess_28, opensAtOf T _ p (by omega) (by omega) (by omega) (by omega), Ma]
    simp (disch := omega) only [iI_zero, iI_len, iI_le, iI_lt, iI_eq, iI_add, iI_sub, iI_mul, Option.bind_some]
    rw [← st, if_neg (by omega)]
    simp only [iMax]
    simp (disch := omega) only [iI_zero, iI_len, iI_le, iI_lt, iI_eq, iI_add, iI_sub, iI_mul, Option.bind_some, iI_ite]
    rw [show 2 * Ob F N (p + 1) - p - 1 = Ex F N p by omega]
    exact ih f (p + 1) _ (by omega) (by omega) (by omega) (by split <;> omega) (by split <;> omega)
theorem iI_div {a b : Int} (h1 : 0 ≤ a) (h2 : a < 2147483648) (h3 : 0 < b) (h4 : b < 2147483648) : iI a / iI b = iI (a / b) := by
  have ea : a = ((a.toNat : Nat) : Int) := by omega
  have eb : b = ((b.toNat : Nat) : Int) := by omega
  rw [ea, eb, iI_nat, iI_nat, pk_div (by omega) (by omega) (by omega), ← Int.natCast_ediv, iI_nat]
/-- number of blocks -/
def Bk (N w : Int) : Int := (2 * N + w - 1) / w
theorem Bk_bd (N w : Int) (h : 1 ≤ N) (h2 : N ≤ 100) (h3 : 4 ≤ w) (h4 : w ≤ 32) : 1 ≤ Bk N w ∧ Bk N w ≤ 300 := by
  unfold Bk
  constructor
  · rw [Int.le_ediv_iff_mul_le (by omega)]; omega
  · have : (2 * N + w - 1) / w ≤ 2 * N + w - 1 := Int.ediv_le_self _ (by omega)
    omega
theorem Bk_in (N w k : Int) (h3 : 4 ≤ w) (h5 : 0 ≤ k) (h6 : k < Bk N w) : 0 ≤ k * w ∧ k * w < 2 * N := by
  have : k + 1 ≤ Bk N w := by omega
  unfold Bk at this
  rw [Int.le_ediv_iff_mul_le (by omega), Int.add_mul, Int.one_mul] at this
  have := Int.mul_nonneg h5 (by omega : 0 ≤ w)
  omega
theorem countForOf (N w : Int) (h : 1 ≤ N) (h2 : N ≤ 100) (h3 : 4 ≤ w) (h4 : w ≤ 32) : mX0_countFor (iI N) (iI w) = some (iI (Bk N w)) := by
  unfold mX0_countFor mX3_positionCount
  simp only [iMax]
  simp (disch := omega) only [iI_zero, iI_len, iI_le, iI_lt, iI_eq, iI_add, iI_sub, iI_mul, Option.bind_some, iI_ite]
  rw [if_neg (by omega : ¬ w < 4), if_pos (by omega)]
  rw [iI_div (by omega) (by omega) (by omega) (by omega), Bk]
theorem Fa_skip (F G : Int → Int) (g : Int) : ∀ (j k : Nat) (x e : Int), (∀ y, x - j < y → y ≤ x → e ≤ F y) → Fa F G g (j + k) x e = Fa F G g k (x - j) e
  | 0, k, x, e, _ => by rw [Nat.zero_add]; simp
  | j + 1, k, x, e, h => by
    rw [show j + 1 + k = (j + k) + 1 by omega, Fa, if_pos (h x (by omega) (by omega)), Fa_skip F G g j k (x - 1) e (fun y g1 g2 => h y (by omega) (by omega))]
    rw [show x - 1 - (j : Int) = x - ((j + 1 : Nat) : Int) by omega]
theorem TV.faPa (T : TV N F G) (g v : Int) (h : 0 ≤ v) (h2 : v < N) : Fa F G g v.toNat (v - 1) (F v) = if Pa F v < 0 then -5 else (if G (Pa F v) = g then Pa F v else Fa F G g (Pa F v).toNat (Pa F v - 1) (F (Pa F v))) := by
  by_cases c : v = 0
  · rw [c, Pa, if_pos rfl, if_pos (by omega)]
    rfl
  · have p := T.paSpec v (by omega) h2
    rw [if_neg (by omega), show v.toNat = (v - 1 - Pa F v).toNat + ((Pa F v).toNat + 1) by omega, Fa_skip F G g _ _ (v - 1) (F v) (fun y g1 g2 => p.2.2.2 y (by omega) (by omega)), show v - 1 - ((v - 1 - Pa F v).toNat : Int) = Pa F v by omega, Fa, if_neg (by omega)]
/-- binary digits -/
def dg : Nat → Int → Int
  | 0, _ => 0
  | k + 1, l => if l ≤ 0 then 0 else 1 + dg k (l / 2)
theorem dg_bd : ∀ (k : Nat) (l : Int), 0 ≤ dg k l ∧ dg k l ≤ k
  | 0, _ => by simp [dg]
  | k + 1, l => by
    have a := dg_bd k (l / 2)
    rw [dg]
    split <;> omega
theorem digits_all : ∀ k : Nat, k < 101 → 1 ≤ k → mX4_binaryDigits (iI k) = some (iI (dg 10 k)) := by decide +kernel
theorem digitsOf (N : Int) (h : 1 ≤ N) (h2 : N ≤ 100) : mX4_binaryDigits (iI N) = some (iI (dg 10 N)) := by
  have := digits_all N.toNat (by omega) (by omega)
  rw [show ((N.toNat : Nat) : Int) = N by omega] at this
  exact this
end POS

/-! 20: the steps that only read: landed code and reference answer alike -/
theorem e10 : ¬ (iI 1 : Int32) = 0 := by decide
theorem e00 : (iI 0 : Int32) = 0 := rfl
section RTREE
variable {N : Int} {F G : Int → Int} {d lb : Nat → Int32}
theorem TV.dp (T : TV N F G) (v : Int) (h : 0 ≤ v) (h2 : v < N) : 0 ≤ Dp F N v ∧ Dp F N v < N := by
  have e := T.en v h h2
  have a := Am_in (F := F) (En F N v - v - 1).toNat (v + 1) v
  unfold Dp
  omega
theorem TV.rkNe (T : TV N F G) (v w : Int) (h : 0 ≤ v) (h2 : v < w) (h3 : w < N) : Rk F N v ≠ Rk F N w := by
  have ev := T.en v h (by omega)
  have ew := T.en w (by omega) h3
  unfold Rk
  by_cases c : w < En F N v
  · have f1 := ev.2.2.1 w h2 c
    have : En F N w ≤ En F N v := by
      by_cases q : En F N v < En F N w
      · have := ew.2.2.1 (En F N v) c q
        have := ev.2.2.2
        omega
      · omega
    omega
  · have := T.climbs' (En F N v) w (by omega) (by omega)
    have := ev.2.2.2
    omega
end RTREE
