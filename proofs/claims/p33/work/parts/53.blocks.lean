/-! 53: blocks by the excesses at their positions; the space (the law's blocks) -/
section BLOCKS
variable {N : Int} {F G : Int → Int} {d lb : Nat → Int32}
/-- excess before a position -/
def Xb (F : Int → Int) (N p : Int) : Int := 2 * Ob F N p - p
theorem Ex_xb (F : Int → Int) (N p : Int) : Ex F N p = Xb F N (p + 1) := rfl
theorem TV.npOb (T : TV N F G) (p : Int) (h : 0 ≤ p) (h2 : p < 2 * N) : (2 * Np F N p - F (Np F N p) = p) ↔ (Ob F N p < N ∧ 2 * Ob F N p - F (Ob F N p) = p) := by
  have hN := T.nn
  obtain ⟨a1, a2, a3, a4⟩ := T.np p h h2
  have o := T.ob p
  constructor
  · intro q
    have e : Ob F N p = Np F N p := fst_eq _ _ _ _ a2 (by omega) (fun y g1 g2 => by have := T.opUp y (Np F N p) g1 g2; simp only [decide_eq_false_iff_not]; omega) (fun _ => by simp only [decide_eq_true_eq]; omega)
    rw [e]
    exact ⟨a3, q⟩
  · intro q
    have n := T.npOp (Ob F N p) o.1 q.1
    rw [q.2] at n
    rw [n.1]
    exact q.2
theorem TV.xbStep (T : TV N F G) (p : Int) (h : 0 ≤ p) (h2 : p < 2 * N) : Xb F N (p + 1) = Xb F N p + (if 2 * Np F N p - F (Np F N p) = p then 1 else -1) := by
  have s := T.obStep p
  have i := T.npOb p h h2
  unfold Xb
  by_cases c : 2 * Np F N p - F (Np F N p) = p
  · rw [if_pos c]; rw [if_pos (i.mp c)] at s; omega
  · rw [if_neg c]; rw [if_neg (fun q => c (i.mpr q))] at s; omega
theorem TV.xb0 (T : TV N F G) : Xb F N 0 = 0 := by
  have n := T.nn
  have e : Ob F N 0 = 0 := fst_eq _ _ _ _ (Int.le_refl _) (by omega) (fun y g1 g2 => absurd g2 (by omega)) (fun _ => by have := T.2.2.1; simp only [decide_eq_true_eq]; omega)
  unfold Xb
  omega
theorem TV.xbEnd (T : TV N F G) : Xb F N (2 * N) = 0 := by
  have n := T.nn
  have e : Ob F N (2 * N) = N := fst_eq _ _ _ _ (by omega) (by omega) (fun y g1 g2 => by have := T.bd y; simp only [decide_eq_false_iff_not]; omega) (fun q => absurd q (by omega))
  unfold Xb
  omega
theorem TV.xbBd (T : TV N F G) (p : Int) (h : 0 ≤ p) (h2 : p ≤ 2 * N) : -200 ≤ Xb F N p ∧ Xb F N p ≤ 200 := by
  have n := T.nn
  have o := T.ob p
  unfold Xb
  omega
theorem Bk_out (N w : Int) (h3 : 4 ≤ w) : 2 * N ≤ Bk N w * w := by
  have : ¬ (Bk N w + 1) * w ≤ 2 * N + w - 1 := by
    rw [← Int.le_ediv_iff_mul_le (by omega)]
    unfold Bk
    omega
  rw [Int.add_mul, Int.one_mul] at this
  omega
theorem br0 (T : TR N F G (iI N) d lb) (p : Int) (h : 0 ≤ p) (h2 : p < 2 * N) : mX4_bracket (iI N) d (iI p) (iI 0) = some (iI (if 2 * Np F N p - F (Np F N p) = p then 1 else 0)) := by
  rw [brAll T p _ h h2, if_pos rfl]
theorem br1 (T : TR N F G (iI N) d lb) (p : Int) (h : 0 ≤ p) (h2 : p < 2 * N) : mX4_bracket (iI N) d (iI p) (iI 1) = some (iI (Ex F N p)) := by
  rw [brAll T p _ h h2, if_neg (by decide), if_pos rfl]
/-- the places of one block -/
theorem blocks_85 (T : TR N F G (iI N) d lb) (w k : Int) (x1 x2 x3 : Int32) (rec : Int32 → (Nat → Int32) → Int32 → Int32 → Int32 → Int32 → Int32 → Int32 → Int32 → Option (Int32)) (b z : Int) (hb : 0 ≤ b) (hz : b + z ≤ 2 * N) : ∀ (m f : Nat) (i le mo : Int), m < f → 0 ≤ i → i + m = z → -1000 ≤ le → le ≤ 1000 → -1000 ≤ mo → mo ≤ 1000 → mL_blocks_85 rec f (iI N) d (iI w) x1 x2 x3 (iI (b + i)) (iI (Xb F N (b + i))) (iI k) (iI le) (iI mo) (iI z) (iI i) = mL_blocks_85 rec (f - m) (iI N) d (iI w) x1 x2 x3 (iI (b + z)) (iI (Xb F N (b + z))) (iI k) (iI (Mi F N m (b + i) le)) (iI (Ma F N m (b + i) mo)) (iI z) (iI z) := by
  have hN := T.1.nn
  intro m
  induction m with
  | zero =>
    intro f i le mo hf hi hm l1 l2 m1 m2
    have e : i = z := by omega
    rw [e, Mi, Ma]
    rfl
  | succ m ih =>
    intro f i le mo hf hi hm l1 l2 m1 m2
    obtain ⟨f, rfl⟩ : ∃ g, f = g + 1 := ⟨f - 1, by omega⟩
    have st := T.1.xbStep (b + i) (by omega) (by omega)
    have ex := T.1.ex (b + i) (by omega) (by omega)
    have xe := Ex_xb F N (b + i)
    have r := ih f (i + 1) (if Ex F N (b + i) < le then Ex F N (b + i) else le) (if mo < Ex F N (b + i) then Ex F N (b + i) else mo) (by omega) (by omega) (by omega) (by split <;> omega) (by split <;> omega) (by split <;> omega) (by split <;> omega)
    rw [show b + (i + 1) = b + i + 1 by omega, ← xe] at r
    have go : ∀ y : Int, Xb F N (b + i) + y = Ex F N (b + i) → mL_blocks_110 rec (mL_blocks_85 rec f) (iI N) d (iI w) x1 x2 x3 (iI (b + i)) (iI k) (iI le) (iI mo) (iI z) (iI i) (iI y) (iI (Xb F N (b + i))) = mL_blocks_85 rec (f - m) (iI N) d (iI w) x1 x2 x3 (iI (b + z)) (iI (Xb F N (b + z))) (iI k) (iI (Mi F N (m + 1) (b + i) le)) (iI (Ma F N (m + 1) (b + i) mo)) (iI z) (iI z) := by
      intro y hy
      rw [Mi, Ma, ← r]
      unfold mL_blocks_110
      rw [br1 T (b + i) (by omega) (by omega), Option.bind_some, iI_add, hy, if_pos rfl]
      have t : ∀ le' : Int, mL_blocks_141 rec (mL_blocks_85 rec f) (iI N) d (iI w) x1 x2 x3 (iI (b + i)) (iI (Ex F N (b + i))) (iI k) (iI mo) (iI z) (iI i) (iI le') = mL_blocks_85 rec f (iI N) d (iI w) x1 x2 x3 (iI (b + i + 1)) (iI (Ex F N (b + i))) (iI k) (iI le') (iI (if mo < Ex F N (b + i) then Ex F N (b + i) else mo)) (iI z) (iI (i + 1)) := by
        intro le'
        unfold mL_blocks_141 mL_blocks_157
        rw [iI_add, iI_add]
        by_cases q : mo < Ex F N (b + i)
        · rw [if_neg (show ¬ iI (Ex F N (b + i)) ≤ iI mo by rw [iI_le (by omega) (by omega) (by omega) (by omega)]; omega), if_pos q]
        · rw [if_pos (show iI (Ex F N (b + i)) ≤ iI mo by rw [iI_le (by omega) (by omega) (by omega) (by omega)]; omega), if_neg q]
      rw [t, t]
      by_cases q : Ex F N (b + i) < le
      · rw [if_neg (show ¬ iI le ≤ iI (Ex F N (b + i)) by rw [iI_le (by omega) (by omega) (by omega) (by omega)]; omega), if_pos q]
      · rw [if_pos (show iI le ≤ iI (Ex F N (b + i)) by rw [iI_le (by omega) (by omega) (by omega) (by omega)]; omega), if_neg q]
    rw [show f + 1 - (m + 1) = f - m by omega, mL_blocks_85, if_neg (show ¬ iI z ≤ iI i by rw [iI_le (by omega) (by omega) (by omega) (by omega)]; omega), br0 T (b + i) (by omega) (by omega), Option.bind_some]
    by_cases c : 2 * Np F N (b + i) - F (Np F N (b + i)) = b + i
    · rw [if_pos c] at st ⊢
      rw [if_pos rfl]
      exact go 1 (by omega)
    · rw [if_neg c] at st ⊢
      rw [if_neg (by decide)]
      exact go (-1) (by omega)
theorem Mi_top (T : TV N F G) (m : Nat) (p : Int) (h : 0 ≤ p) (h2 : p < 2 * N) : Mi F N (m + 1) p 1000 = Mi F N (m + 1) p 100 := by
  have ex := T.ex p h h2
  rw [Mi, Mi, if_pos (by omega)]
  by_cases c : Ex F N p < 100
  · rw [if_pos c]
  · rw [if_neg c, show Ex F N p = 100 by omega]
theorem Ma_low (T : TV N F G) (m : Nat) (p : Int) (h : 0 ≤ p) (h2 : p < 2 * N) : Ma F N (m + 1) p (-1000) = Ma F N (m + 1) p 0 := by
  have ex := T.ex p h h2
  rw [Ma, Ma, if_pos (by omega)]
  by_cases c : 0 < Ex F N p
  · rw [if_pos c]
  · rw [if_neg c, show Ex F N p = 0 by omega]
theorem shr_all : ∀ k : Nat, k < 101 → 1 ≤ k → ∀ g : Nat, g < 11 → 1 ≤ g → (((iI k >>> (iI g &&& 31)) ≤ 0) ↔ dg 10 k ≤ g) := by decide +kernel
theorem blocks_215 (T : TR N F G (iI N) d lb) (w : Int) (hw : 4 ≤ w) (hw2 : w ≤ 32) : ∀ (m f : Nat) (g : Int), m < f → 1 ≤ g → g + m = (if dg 10 N = 0 then 1 else dg 10 N) → mL_blocks_215 f (iI N) d (iI w) (iI N) (iI (Bk N w)) (iI (2 * N)) (iI 0) (iI g) = some (iI 1) := by
  have hN := T.1.nn
  have db := dg_bd 10 N
  have d1 : dg 10 N ≠ 0 := by
    rw [dg, if_neg (by omega)]
    have := dg_bd 9 (N / 2)
    omega
  have sh : ∀ g : Int, 1 ≤ g → g ≤ 10 → ((iI N >>> (iI g &&& 31)) ≤ 0 ↔ dg 10 N ≤ g) := fun g g1 g2 => by
    have := shr_all N.toNat (by omega) (by omega) g.toNat (by omega) (by omega)
    rw [show ((N.toNat : Nat) : Int) = N by omega, show ((g.toNat : Nat) : Int) = g by omega] at this
    exact this
  rw [if_neg d1]
  intro m
  induction m with
  | zero =>
    intro f g hf hg hm
    obtain ⟨f, rfl⟩ : ∃ g, f = g + 1 := ⟨f - 1, by omega⟩
    have e : g = dg 10 N := by omega
    rw [mL_blocks_215, if_pos ((sh g hg (by omega)).mpr (by omega)), if_pos e00, iI_mul, if_pos rfl, bkOut T w _ hw hw2, Option.bind_some, if_pos rfl, spAll N w _ hN.1 hN.2 hw hw2, if_pos rfl, Option.bind_some, if_pos rfl, spAll N w _ hN.1 hN.2 hw hw2, if_neg (by decide), if_pos rfl, Option.bind_some, iI_mul, if_pos rfl, spAll N w _ hN.1 hN.2 hw hw2, if_neg (by decide), if_neg (by decide), if_pos rfl, Option.bind_some, iI_mul, iI_mul, e, if_pos rfl, spAll N w _ hN.1 hN.2 hw hw2, if_neg (by decide), if_neg (by decide), if_neg (by decide), if_pos rfl, Option.bind_some, Option.bind_some, iI_mul, iI_add, if_pos (congrArg iI (show 2 * N + 5 * N + 3 * dg 10 N * Bk N w = 7 * N + 3 * dg 10 N * Bk N w by omega)), spAll N w _ hN.1 hN.2 hw hw2, if_neg (by decide), if_neg (by decide), if_neg (by decide), if_neg (by decide), if_neg (by decide), Option.bind_some, if_pos rfl]
  | succ m ih =>
    intro f g hf hg hm
    obtain ⟨f, rfl⟩ : ∃ g, f = g + 1 := ⟨f - 1, by omega⟩
    rw [mL_blocks_215, if_neg (fun q => absurd ((sh g hg (by omega)).mp q) (by omega)), iI_add]
    exact ih f (g + 1) (by omega) (by omega) (by omega)
theorem blocks_20 (T : TR N F G (iI N) d lb) (w : Int) (hw : 4 ≤ w) (hw2 : w ≤ 32) : ∀ (m f : Nat) (k a : Int), m < f → 0 ≤ k → k + m = Bk N w → (k < Bk N w → a = k * w) → (k = Bk N w → a = 2 * N) → mL_blocks_20 f (iI N) d (iI w) (iI w) (iI N) (iI (Bk N w)) (iI a) (iI (Xb F N a)) (iI k) = some (iI 1) := by
  have hN := T.1.nn
  have bk := Bk_bd N w hN.1 hN.2 hw hw2
  have bo := Bk_out N w hw
  have db := dg_bd 10 N
  intro m
  induction m with
  | zero =>
    intro f k a hf hk hm ha hb
    obtain ⟨f, rfl⟩ : ∃ g, f = g + 1 := ⟨f - 1, by omega⟩
    have e := hb (by omega)
    subst e
    rw [mL_blocks_20, if_pos (show iI (Bk N w) ≤ iI k by rw [iI_le (by omega) (by omega) (by omega) (by omega)]; omega), T.1.xbEnd]
    have d1 : 1 ≤ dg 10 N := by
      rw [dg, if_neg (by omega)]
      have := dg_bd 9 (N / 2)
      omega
    exact blocks_215 T w hw hw2 (dg 10 N - 1).toNat FU 1 (by rw [FU_big]; omega) (Int.le_refl _) (by rw [if_neg (by omega)]; omega)
  | succ m ih =>
    intro f k a hf hk hm ha hb
    obtain ⟨f, rfl⟩ : ∃ g, f = g + 1 := ⟨f - 1, by omega⟩
    have e := ha (by omega)
    have inn := Bk_in N w k hw hk (by omega)
    have b0 := fun x2 => bkAll T w k x2 hw hw2 hk (by omega)
    rw [← e] at inn b0
    have en : a < (if 2 * N < a + w then 2 * N else a + w) ∧ (if 2 * N < a + w then 2 * N else a + w) ≤ 2 * N := by split <;> omega
    have last : k + 1 = Bk N w → (if 2 * N < a + w then 2 * N else a + w) = 2 * N := fun q => by
      rw [← q, Int.add_mul, Int.one_mul, ← e] at bo
      split <;> omega
    have more : k + 1 < Bk N w → (if 2 * N < a + w then 2 * N else a + w) = a + w ∧ a + w = (k + 1) * w := fun q => by
      have i2 := Bk_in N w (k + 1) hw (by omega) q
      rw [Int.add_mul, Int.one_mul, ← e] at i2 ⊢
      exact ⟨by rw [if_neg (by omega)], rfl⟩
    have xa := T.1.xbBd a inn.1 (by omega)
    generalize (if 2 * N < a + w then 2 * N else a + w) = e1 at b0 en last more
    have go : mL_blocks_85 (mL_blocks_20 f) FU (iI N) d (iI w) (iI w) (iI N) (iI (Bk N w)) (iI a) (iI (Xb F N a)) (iI k) (iI 1000) (iI (-1000)) (iI (e1 - a)) (iI 0) = some (iI 1) := by
      have r := blocks_85 T w k (iI w) (iI N) (iI (Bk N w)) (mL_blocks_20 f) a (e1 - a) inn.1 (by omega) (e1 - a).toNat FU 0 1000 (-1000) (by rw [FU_big]; omega) (Int.le_refl _) (by omega) (by omega) (by omega) (by omega) (by omega)
      rw [Int.add_zero, show a + (e1 - a) = e1 by omega, FU_big] at r
      obtain ⟨j, hj⟩ : ∃ j, (e1 - a).toNat = j + 1 := ⟨(e1 - a).toNat - 1, by omega⟩
      obtain ⟨f2, hf2⟩ : ∃ f2, 4096 - (e1 - a).toNat = f2 + 1 := ⟨4095 - (e1 - a).toNat, by omega⟩
      rw [hf2, hj, Mi_top T.1 j a inn.1 inn.2, Ma_low T.1 j a inn.1 inn.2, ← hj] at r
      rw [FU_big]
      refine r.trans ?_
      rw [mL_blocks_85, if_pos (show iI (e1 - a) ≤ iI (e1 - a) by rw [iI_le (by omega) (by omega) (by omega) (by omega)]; omega), b0 (iI 1), if_neg (by decide), if_pos rfl, Option.bind_some, if_pos rfl, b0 (iI 2), if_neg (by decide), if_neg (by decide), if_pos rfl, Option.bind_some, if_pos rfl, b0 (iI 4), if_neg (by decide), if_neg (by decide), if_neg (by decide), if_neg (by decide), Option.bind_some, if_pos rfl, iI_add]
      exact ih f (k + 1) e1 (by omega) (by omega) (by omega) (fun q => by have := more q; omega) (fun q => last q)
    rw [mL_blocks_20, if_neg (show ¬ iI (Bk N w) ≤ iI k by rw [iI_le (by omega) (by omega) (by omega) (by omega)]; omega), b0 (iI 3), if_neg (by decide), if_neg (by decide), if_neg (by decide), if_pos rfl, Option.bind_some, b0 (iI 0), if_pos rfl, Option.bind_some, show 2 * Ob F N a - a = Xb F N a from rfl, if_pos rfl, iI_add]
    by_cases q : k + 1 = Bk N w
    · have l := last q
      rw [if_pos (show iI (Bk N w) ≤ iI (k + 1) by rw [iI_le (by omega) (by omega) (by omega) (by omega)]; omega), iI_mul, iI_sub, ← l]
      unfold mL_blocks_77
      rw [if_pos rfl]
      exact go
    · have l := more (by omega)
      rw [if_neg (show ¬ iI (Bk N w) ≤ iI (k + 1) by rw [iI_le (by omega) (by omega) (by omega) (by omega)]; omega)]
      unfold mL_blocks_77
      rw [if_pos (congrArg iI (show e1 - a = w by omega))]
      exact go
theorem blocks_ok (T : TR N F G (iI N) d lb) (w : Int) (hw : 4 ≤ w) (hw2 : w ≤ 32) : mL_blocks (iI N) d (iI w) (iI w) = some (iI 1) := by
  have hN := T.1.nn
  have bk := Bk_bd N w hN.1 hN.2 hw hw2
  unfold mL_blocks mX4_size mX3_count
  rw [spAll N w _ hN.1 hN.2 hw hw2, if_neg (by decide), if_neg (by decide), if_neg (by decide), if_neg (by decide), if_pos rfl, Option.bind_some]
  have r := blocks_20 T w hw hw2 (Bk N w).toNat FU 0 0 (by rw [FU_big]; omega) (Int.le_refl _) (by omega) (fun _ => by rw [Int.zero_mul]) (fun q => absurd q (by omega))
  rw [T.1.xb0] at r
  exact r
end BLOCKS
