/-! 33 (out of whole's 13) -/
/-! 13: the landed code's tree readers, continued -/
/-- a place found, or an error number where the search came to its end e -/
def orElse (e r z : Int) : Int := if r = e then z else r
section TREAD2
variable {N : Int} {F G : Int → Int} {d lb : Nat → Int32}
theorem TV.rk (T : TV N F G) (v : Int) (h : 0 ≤ v) (h2 : v < N) : 0 ≤ Rk F N v ∧ Rk F N v < N := by
  have e := T.en v h h2
  have b := T.bdx v
  unfold Rk
  omega
theorem findByPostorder_2 (T : TR N F G (iI N) d lb) (r : Int) (hr : -2147483648 ≤ r) (hr2 : r < 2147483648) : ∀ (k f : Nat) (x : Int), k < f → 0 ≤ x → x + k = N → mX3_findByPostorder_2 f (iI N) d (iI r) (iI x) = some (iI (orElse N (fst (fun y => decide (Rk F N y = r)) k x) (-5))) := by
  have hN := T.1.nn
  intro k
  induction k with
  | zero =>
    intro f x hf h0 hx
    obtain ⟨f, rfl⟩ : ∃ g, f = g + 1 := ⟨f - 1, by omega⟩
    rw [mX3_findByPostorder_2, fst]
    simp (disch := omega) only [iI_zero, iI_len, iI_le, iI_lt, iI_eq, iI_add, iI_sub, iI_mul, Option.bind_some]
    rw [if_pos (by omega), orElse, if_pos (by omega)]
  | succ k ih =>
    intro f x hf h0 hx
    obtain ⟨f, rfl⟩ : ∃ g, f = g + 1 := ⟨f - 1, by omega⟩
    have b := T.1.rk x h0 (by omega)
    have ih := ih f (x + 1) (by omega) (by omega) (by omega)
    rw [mX3_findByPostorder_2, postorderOf' T x h0 (by omega)]
    simp (disch := omega) only [iI_zero, iI_len, iI_le, iI_lt, iI_eq, iI_add, iI_sub, iI_mul, Option.bind_some]
    rw [if_neg (by omega)]
    by_cases c : Rk F N x = r
    · rw [if_pos c, fst_yes (by simpa using c), orElse, if_neg (by omega)]
    · rw [if_neg c, fst_no (by simpa using c)]
      exact ih
theorem findByPostorderOf (T : TR N F G (iI N) d lb) (r : Int) (hr : -2147483648 ≤ r) (hr2 : r < 2147483648) : mX3_findByPostorder (iI N) d (iI r) = some (iI (orElse N (fst (fun y => decide (Rk F N y = r)) N.toNat 0) (-5))) := by
  have hN := T.1.nn
  unfold mX3_findByPostorder
  exact findByPostorder_2 T r hr hr2 _ _ _ (by rw [FU_big]; omega) (by omega) (by omega)
/-- the least of m and the depths less one -/
def Mn (F : Int → Int) : Nat → Int → Int → Int
  | 0, _, m => m
  | k + 1, x, m => Mn F k (x + 1) (if F x - 1 < m then F x - 1 else m)
theorem TV.mn (T : TV N F G) : ∀ (k : Nat) (x m : Int), 0 < x → x + k ≤ N → 0 ≤ m → 0 ≤ Mn F k x m ∧ Mn F k x m ≤ m ∧ (∀ y, x ≤ y → y < x + k → Mn F k x m ≤ F y - 1) ∧ (Mn F k x m = m ∨ ∃ y, x ≤ y ∧ y < x + k ∧ Mn F k x m = F y - 1)
  | 0, x, m, h, h2, h3 => by rw [Mn]; exact ⟨h3, Int.le_refl _, fun y g1 g2 => absurd g2 (by omega), Or.inl rfl⟩
  | k + 1, x, m, h, h2, h3 => by
    rw [Mn]
    have p := T.pos x h (by omega)
    by_cases c : F x - 1 < m
    · rw [if_pos c]
      obtain ⟨a1, a2, a3, a4⟩ := TV.mn T k (x + 1) (F x - 1) (by omega) (by omega) (by omega)
      refine ⟨a1, by omega, fun y g1 g2 => ?_, Or.inr ?_⟩
      · by_cases e : y = x
        · rw [e]; exact a2
        · exact a3 y (by omega) (by omega)
      · rcases a4 with g | ⟨y, g1, g2, g3⟩
        · exact ⟨x, by omega, by omega, g⟩
        · exact ⟨y, by omega, by omega, g3⟩
    · rw [if_neg c]
      obtain ⟨a1, a2, a3, a4⟩ := TV.mn T k (x + 1) m (by omega) (by omega) h3
      refine ⟨a1, a2, fun y g1 g2 => ?_, ?_⟩
      · by_cases e : y = x
        · rw [e]; omega
        · exact a3 y (by omega) (by omega)
      · rcases a4 with g | ⟨y, g1, g2, g3⟩
        · exact Or.inl g
        · exact Or.inr ⟨y, by omega, by omega, g3⟩
theorem meetingOf_25 (T : TR N F G (iI N) d lb) (a1 a2 : Int32) (u z : Int) (hu : 0 ≤ u) (hu2 : u < N) (hz2 : z < N) : ∀ (k f : Nat) (x m : Int), k < f → 0 < x → x + k = z + 1 → 0 ≤ m → m ≤ F u → mX3_meetingOf_25 f (iI N) d a1 a2 (iI u) (iI z) (iI m) (iI x) = some (iI (Up F u (Mn F k x m))) := by
  have hN := T.1.nn
  have bu := T.1.bd u
  intro k
  induction k with
  | zero =>
    intro f x m hf h0 hx hm hm2
    obtain ⟨f, rfl⟩ : ∃ g, f = g + 1 := ⟨f - 1, by omega⟩
    rw [mX3_meetingOf_25, Mn]
    simp (disch := omega) only [iI_zero, iI_len, iI_le, iI_lt, iI_eq, iI_add, iI_sub, iI_mul, Option.bind_some]
    rw [if_pos (by omega), climbIn T u m hu hu2 hm hm2]
    rfl
  | succ k ih =>
    intro f x m hf h0 hx hm hm2
    obtain ⟨f, rfl⟩ : ∃ g, f = g + 1 := ⟨f - 1, by omega⟩
    have b := T.1.bd x
    have p := T.1.pos x h0 (by omega)
    rw [mX3_meetingOf_25, Mn]
    simp (disch := omega) only [iI_zero, iI_len, iI_le, iI_lt, iI_eq, iI_add, iI_sub, iI_mul, Option.bind_some, dOf T, iMin, iI_ite]
    rw [if_neg (by omega), ih f (x + 1) _ (by omega) (by omega) (by omega) (by split <;> omega) (by split <;> omega)]
/-- the common one: the least depth between tells how far up -/
def Cm (F : Int → Int) (u z : Int) : Int := Up F u (Mn F (z - u).toNat (u + 1) (F u))
theorem meetingOf' (T : TR N F G (iI N) d lb) (v w : Int) (h : 0 ≤ v) (h2 : v < N) (h3 : 0 ≤ w) (h4 : w < N) : mX3_meetingOf (iI N) d (iI v) (iI w) = some (iI (Cm F (if w < v then w else v) (if v < w then w else v))) := by
  have hN := T.1.nn
  unfold mX3_meetingOf
  simp only [iMin, iMax]
  simp (disch := omega) only [iI_zero, iI_len, iI_le, iI_lt, iI_eq, iI_add, iI_sub, iI_mul, Option.bind_some, iI_ite]
  obtain ⟨u, hu⟩ : ∃ u, u = (if w < v then w else v) := ⟨_, rfl⟩
  obtain ⟨z, hz⟩ : ∃ z, z = (if v < w then w else v) := ⟨_, rfl⟩
  rw [← hu, ← hz]
  have g1 : 0 ≤ u ∧ u < N ∧ u ≤ z ∧ z < N := by
    rw [hu, hz]
    split <;> split <;> omega
  have bu := T.1.bd u
  rw [dOf T u (by omega) (by omega)]
  unfold Cm
  exact meetingOf_25 T _ _ u z g1.1 g1.2.1 g1.2.2.2 (z - u).toNat _ _ _ (by rw [FU_big]; omega) (by omega) (by omega) bu.1 (Int.le_refl _)
/-- the next child of the parent -/
def Nx (F : Int → Int) (N v : Int) : Int := if En F N v < N ∧ F (En F N v) = F v then En F N v else -5
theorem nextSiblingOf (T : TR N F G (iI N) d lb) (v : Int) (h : 0 ≤ v) (h2 : v < N) : mX3_nextSibling (iI N) d (iI v) = some (iI (Nx F N v)) := by
  have hN := T.1.nn
  have e := T.1.en v h h2
  have b := T.1.bd v
  have b2 := T.1.bd (En F N v)
  unfold mX3_nextSibling Nx
  rw [endOf T v h h2]
  simp (disch := omega) only [iI_zero, iI_len, iI_le, iI_lt, iI_eq, iI_add, iI_sub, iI_mul, Option.bind_some, dOf T, hasOf T]
  by_cases c : En F N v < N
  · rw [if_pos (by omega : 0 ≤ En F N v ∧ En F N v < N), if_neg (by omega)]
    by_cases g : F (En F N v) = F v
    · rw [if_pos g, if_pos ⟨c, g⟩]
    · rw [if_neg g, if_neg (fun q => g q.2)]
  · rw [if_neg (by omega : ¬ (0 ≤ En F N v ∧ En F N v < N)), if_pos rfl, if_neg (fun q => c q.1)]
theorem previousAtDepthOf (T : TR N F G (iI N) d lb) (v : Int) (h : 0 ≤ v) (h2 : v < N) : mX3_previousAtDepth (iI N) d (iI v) = some (iI (if Up F (v - 1) (F v) < 0 then -5 else Up F (v - 1) (F v))) := by
  have hN := T.1.nn
  have b := T.1.bd v
  unfold mX3_previousAtDepth
  simp (disch := omega) only [iI_zero, iI_len, iI_le, iI_lt, iI_eq, iI_add, iI_sub, iI_mul, Option.bind_some, dOf T]
  rw [climbOf T (v - 1) (F v) (by omega) (by omega) (by omega) (by omega)]
  rfl
/-- places before, among the children of one parent -/
def Pl (F : Int → Int) (e : Int) : Nat → Int → Int
  | 0, _ => 0
  | k + 1, x => if F x < e then 0 else (if F x = e then 1 else 0) + Pl F e k (x - 1)
theorem Pl_bd (F : Int → Int) (e : Int) : ∀ (k : Nat) (x : Int), 0 ≤ Pl F e k x ∧ Pl F e k x ≤ k
  | 0, _ => by simp [Pl]
  | k + 1, x => by
    have a := Pl_bd F e k (x - 1)
    rw [Pl]
    split
    · omega
    · split <;> omega
theorem placeOf_13 (T : TR N F G (iI N) d lb) (a : Int32) (e : Int) (he : 0 ≤ e) (he2 : e ≤ 99) : ∀ (k f : Nat) (c x : Int), k < f → x + 1 = k → x < N → 0 ≤ c → c + k ≤ 1000 → mX3_placeOf_13 f (iI N) d a (iI e) (iI c) (iI x) = some (iI (c + Pl F e k x)) := by
  have hN := T.1.nn
  intro k
  induction k with
  | zero =>
    intro f c x hf hx hx2 hc hc2
    obtain ⟨f, rfl⟩ : ∃ g, f = g + 1 := ⟨f - 1, by omega⟩
    rw [mX3_placeOf_13, Pl]
    simp (disch := omega) only [iI_zero, iI_len, iI_le, iI_lt, iI_eq, iI_add, iI_sub, iI_mul, Option.bind_some]
    rw [if_pos (by omega), Int.add_zero]
  | succ k ih =>
    intro f c x hf hx hx2 hc hc2
    obtain ⟨f, rfl⟩ : ∃ g, f = g + 1 := ⟨f - 1, by omega⟩
    have b := T.1.bd x
    rw [mX3_placeOf_13, Pl]
    simp (disch := omega) only [iI_zero, iI_len, iI_le, iI_lt, iI_eq, iI_add, iI_sub, iI_mul, Option.bind_some, dOf T]
    rw [if_neg (by omega)]
    by_cases g : F x < e
    · rw [if_pos g, if_pos g, Int.add_zero]
    · rw [if_neg g, if_neg g]
      by_cases q : F x = e
      · rw [if_pos q, if_pos q, show x + -1 = x - 1 by omega, ih f (c + 1) (x - 1) (by omega) (by omega) (by omega) (by omega) (by omega), ← Int.add_assoc]
      · rw [if_neg q, if_neg q, show x + -1 = x - 1 by omega, ih f c (x - 1) (by omega) (by omega) (by omega) (by omega) (by omega), Int.zero_add]
theorem placeOf' (T : TR N F G (iI N) d lb) (v : Int) (h : 0 ≤ v) (h2 : v < N) : mX3_placeOf (iI N) d (iI v) = some (iI (Pl F (F v) v.toNat (v - 1))) := by
  have hN := T.1.nn
  have b := T.1.bd v
  unfold mX3_placeOf
  simp (disch := omega) only [iI_zero, iI_len, iI_le, iI_lt, iI_eq, iI_add, iI_sub, iI_mul, Option.bind_some, dOf T]
  rw [placeOf_13 T _ (F v) b.1 b.2 v.toNat _ 0 (v - 1) (by rw [FU_big]; omega) (by omega) (by omega) (by omega) (by omega), Int.zero_add]
/-- the first place at or before x that is no deeper than e -/
def Lo (F : Int → Int) (e x : Int) : Int := dwn (fun y => decide (F y ≤ e)) (x + 1).toNat x
/-- the previous child of the parent -/
def Sb (F : Int → Int) (v : Int) : Int := if 0 ≤ Lo F (F v) (v - 1) ∧ F (Lo F (F v) (v - 1)) = F v then Lo F (F v) (v - 1) else -5
theorem Pl_lo (F : Int → Int) (e : Int) : ∀ (k : Nat) (x : Int), x + 1 = k → Pl F e k x = if 0 ≤ Lo F e x ∧ F (Lo F e x) = e then 1 + Pl F e (Lo F e x).toNat (Lo F e x - 1) else 0
  | 0, x, h => by
    have e0 : Lo F e x = x := by unfold Lo; rw [show (x + 1).toNat = 0 by omega, dwn]
    rw [e0, Pl, if_neg (by omega)]
  | k + 1, x, h => by
    by_cases c : F x ≤ e
    · have e0 : Lo F e x = x := by unfold Lo; rw [show (x + 1).toNat = k + 1 by omega, dwn_yes (by simpa using c)]
      rw [e0, Pl]
      by_cases g : F x = e
      · rw [if_neg (by omega), if_pos g, if_pos ⟨by omega, g⟩, show x.toNat = k by omega]
      · rw [if_pos (by omega), if_neg (fun q => g q.2)]
    · have e0 : Lo F e x = Lo F e (x - 1) := by unfold Lo; rw [show (x + 1).toNat = k + 1 by omega, dwn_no (by simpa using c), show (x - 1 + 1).toNat = k by omega]
      rw [e0, Pl, if_neg (by omega), if_neg (by omega), Int.zero_add]
      exact Pl_lo F e k (x - 1) (by omega)
theorem Lo_bd (F : Int → Int) (e x : Int) (h : -1 ≤ x) : -1 ≤ Lo F e x ∧ Lo F e x ≤ x := by
  obtain ⟨g1, g2, g3, g4⟩ := dwn_spec (fun y => decide (F y ≤ e)) (x + 1).toNat x
  unfold Lo
  omega
theorem Lo_gt (F : Int → Int) (e x y : Int) (h : y ≤ x) (h2 : Lo F e x < y) : e < F y := by
  obtain ⟨g1, g2, g3, g4⟩ := dwn_spec (fun y => decide (F y ≤ e)) (x + 1).toNat x
  have := g3 y h h2
  simpa using this
theorem Lo_le (F : Int → Int) (e x : Int) (h : -1 ≤ x) (h2 : 0 ≤ Lo F e x) : F (Lo F e x) ≤ e := by
  obtain ⟨g1, g2, g3, g4⟩ := dwn_spec (fun y => decide (F y ≤ e)) (x + 1).toNat x
  have := g4 (by unfold Lo at h2; omega)
  simpa [Lo] using this
theorem previousSiblingOf (T : TR N F G (iI N) d lb) (v : Int) (h : 0 ≤ v) (h2 : v < N) : mX3_previousSibling (iI N) d (iI v) = some (iI (Sb F v)) := by
  have hN := T.1.nn
  have p := Pl_bd F (F v) v.toNat (v - 1)
  have q := Pl_lo F (F v) v.toNat (v - 1) (by omega)
  have l := Lo_bd F (F v) (v - 1) (by omega)
  unfold mX3_previousSibling
  rw [placeOf' T v h h2, previousAtDepthOf T v h h2]
  simp (disch := omega) only [iI_zero, iI_len, iI_le, iI_lt, iI_eq, iI_add, iI_sub, iI_mul, Option.bind_some]
  unfold Sb
  by_cases c : 0 ≤ Lo F (F v) (v - 1) ∧ F (Lo F (F v) (v - 1)) = F v
  · rw [if_pos c] at q
    have p2 := Pl_bd F (F v) (Lo F (F v) (v - 1)).toNat (Lo F (F v) (v - 1) - 1)
    rw [if_neg (by omega), if_pos c]
    have u : Up F (v - 1) (F v) = Lo F (F v) (v - 1) := T.1.upEq (v - 1) (F v) _ c.1 l.2 c.2 (fun y g1 g2 => by have := Lo_gt F (F v) (v - 1) y g1 g2; omega)
    rw [u, if_neg (by omega)]
  · rw [if_neg c] at q
    rw [if_pos q, if_neg c]
theorem nextAtDepth_4 (T : TR N F G (iI N) d lb) (v : Int) (hv : 0 ≤ v) (hv2 : v < N) : ∀ (k f : Nat) (x : Int), k < f → 0 ≤ x → x + k = N → mX3_nextAtDepth_4 f (iI N) d (iI v) (iI x) = some (iI (orElse N (fst (fun y => decide (F y = F v)) k x) (-5))) := by
  have hN := T.1.nn
  have bv := T.1.bd v
  intro k
  induction k with
  | zero =>
    intro f x hf h0 hx
    obtain ⟨f, rfl⟩ : ∃ g, f = g + 1 := ⟨f - 1, by omega⟩
    rw [mX3_nextAtDepth_4, fst]
    simp (disch := omega) only [iI_zero, iI_len, iI_le, iI_lt, iI_eq, iI_add, iI_sub, iI_mul, Option.bind_some]
    rw [if_pos (by omega), orElse, if_pos (by omega)]
  | succ k ih =>
    intro f x hf h0 hx
    obtain ⟨f, rfl⟩ : ∃ g, f = g + 1 := ⟨f - 1, by omega⟩
    have b := T.1.bd x
    have ih := ih f (x + 1) (by omega) (by omega) (by omega)
    rw [mX3_nextAtDepth_4]
    simp (disch := omega) only [iI_zero, iI_len, iI_le, iI_lt, iI_eq, iI_add, iI_sub, iI_mul, Option.bind_some, dOf T]
    rw [if_neg (by omega)]
    by_cases c : F x = F v
    · rw [if_pos c, fst_yes (by simpa using c), orElse, if_neg (by omega)]
    · rw [if_neg c, fst_no (by simpa using c)]
      exact ih
theorem nextAtDepthOf (T : TR N F G (iI N) d lb) (v : Int) (h : 0 ≤ v) (h2 : v < N) : mX3_nextAtDepth (iI N) d (iI v) = some (iI (orElse N (fst (fun y => decide (F y = F v)) (N - v - 1).toNat (v + 1)) (-5))) := by
  have hN := T.1.nn
  unfold mX3_nextAtDepth
  simp (disch := omega) only [iI_zero, iI_len, iI_le, iI_lt, iI_eq, iI_add, iI_sub, iI_mul, Option.bind_some]
  exact nextAtDepth_4 T v h h2 _ _ _ (by rw [FU_big]; omega) (by omega) (by omega)
theorem nextLeaf_4 (T : TR N F G (iI N) d lb) (a : Int32) : ∀ (k f : Nat) (x : Int), k < f → 0 ≤ x → x + k = N → mX3_nextLeaf_4 f (iI N) d a (iI x) = some (iI (orElse N (fst (Lf F) k x) (-5))) := by
  have hN := T.1.nn
  intro k
  induction k with
  | zero =>
    intro f x hf h0 hx
    obtain ⟨f, rfl⟩ : ∃ g, f = g + 1 := ⟨f - 1, by omega⟩
    rw [mX3_nextLeaf_4, fst]
    simp (disch := omega) only [iI_zero, iI_len, iI_le, iI_lt, iI_eq, iI_add, iI_sub, iI_mul, Option.bind_some]
    rw [if_pos (by omega), orElse, if_pos (by omega)]
  | succ k ih =>
    intro f x hf h0 hx
    obtain ⟨f, rfl⟩ : ∃ g, f = g + 1 := ⟨f - 1, by omega⟩
    have ih := ih f (x + 1) (by omega) (by omega) (by omega)
    rw [mX3_nextLeaf_4, isLeafOf T x (by omega) (by omega)]
    by_cases c : Lf F x = true
    · rw [if_pos c, fst_yes c]
      simp (disch := omega) only [iI_zero, iI_len, iI_le, iI_lt, iI_eq, iI_add, iI_sub, iI_mul, Option.bind_some]
      rw [if_neg (by omega), if_neg (by omega), orElse, if_neg (by omega)]
    · rw [if_neg c, fst_no c]
      simp (disch := omega) only [iI_zero, iI_len, iI_le, iI_lt, iI_eq, iI_add, iI_sub, iI_mul, Option.bind_some]
      rw [if_neg (by omega), if_pos trivial]
      exact ih
theorem nextLeafOf (T : TR N F G (iI N) d lb) (v : Int) (h : 0 ≤ v) (h2 : v < N) : mX3_nextLeaf (iI N) d (iI v) = some (iI (orElse N (fst (Lf F) (N - v - 1).toNat (v + 1)) (-5))) := by
  have hN := T.1.nn
  unfold mX3_nextLeaf
  simp (disch := omega) only [iI_zero, iI_len, iI_le, iI_lt, iI_eq, iI_add, iI_sub, iI_mul, Option.bind_some]
  exact nextLeaf_4 T _ _ _ _ (by rw [FU_big]; omega) (by omega) (by omega)
/-- the child with the greatest subtree -/
def Lc (F : Int → Int) (N v : Int) : Nat → Int → Int → Int → Int
  | 0, _, b, _ => b
  | k + 1, x, b, m => if F x = F v + 1 then (if En F N x - x ≤ m then Lc F N v k (x + 1) b m else Lc F N v k (x + 1) x (En F N x - x)) else Lc F N v k (x + 1) b m
theorem largestChild_17 (T : TR N F G (iI N) d lb) (v e : Int) (hv : 0 ≤ v) (hv2 : v < N) (he : e ≤ N) : ∀ (k f : Nat) (x b m : Int), k < f → 0 ≤ x → x + k = e → 0 ≤ m → m ≤ 100 → mX3_largestChild_17 f (iI N) d (iI v) (iI e) (iI b) (iI m) (iI x) = some (iI (Lc F N v k x b m)) := by
  have hN := T.1.nn
  have bv := T.1.bd v
  intro k
  induction k with
  | zero =>
    intro f x b m hf h0 hx hm hm2
    obtain ⟨f, rfl⟩ : ∃ g, f = g + 1 := ⟨f - 1, by omega⟩
    rw [mX3_largestChild_17, Lc]
    simp (disch := omega) only [iI_zero, iI_len, iI_le, iI_lt, iI_eq, iI_add, iI_sub, iI_mul, Option.bind_some]
    rw [if_pos (by omega)]
  | succ k ih =>
    intro f x b m hf h0 hx hm hm2
    obtain ⟨f, rfl⟩ : ∃ g, f = g + 1 := ⟨f - 1, by omega⟩
    have bx := T.1.bd x
    have ex := T.1.en x h0 (by omega)
    rw [mX3_largestChild_17, Lc, sizeOf' T x h0 (by omega)]
    simp (disch := omega) only [iI_zero, iI_len, iI_le, iI_lt, iI_eq, iI_add, iI_sub, iI_mul, Option.bind_some, dOf T]
    rw [if_neg (by omega)]
    by_cases c : F x = F v + 1
    · rw [if_pos c, if_pos c]
      by_cases g : En F N x - x ≤ m
      · rw [if_pos g, if_pos g, ih f (x + 1) b m (by omega) (by omega) (by omega) (by omega) (by omega)]
      · rw [if_neg g, if_neg g, ih f (x + 1) x _ (by omega) (by omega) (by omega) (by omega) (by omega)]
    · rw [if_neg c, if_neg c, ih f (x + 1) b m (by omega) (by omega) (by omega) (by omega) (by omega)]
theorem largestChildOf (T : TR N F G (iI N) d lb) (v : Int) (h : 0 ≤ v) (h2 : v < N) : mX3_largestChild (iI N) d (iI v) = some (iI (Lc F N v (En F N v - v - 1).toNat (v + 1) (-5) 0)) := by
  have hN := T.1.nn
  have e := T.1.en v h h2
  unfold mX3_largestChild
  rw [endOf T v h h2]
  simp (disch := omega) only [iI_zero, iI_len, iI_le, iI_lt, iI_eq, iI_add, iI_sub, iI_mul, Option.bind_some]
  exact largestChild_17 T v _ h h2 e.2.1 _ _ _ _ _ (by rw [FU_big]; omega) (by omega) (by omega) (by omega) (by omega)
theorem countAtDepth_4 (T : TR N F G (iI N) d lb) (e : Int) (he : -2147483648 ≤ e) (he2 : e < 2147483648) : ∀ (k f : Nat) (c x : Int), k < f → 0 ≤ x → x + k = N → 0 ≤ c → c + k ≤ 1000 → mX3_countAtDepth_4 f (iI N) d (iI e) (iI c) (iI x) = some (iI (c + cnt (fun y => decide (F y = e)) k x)) := by
  have hN := T.1.nn
  intro k
  induction k with
  | zero =>
    intro f c x hf h0 hx hc hc2
    obtain ⟨f, rfl⟩ : ∃ g, f = g + 1 := ⟨f - 1, by omega⟩
    rw [mX3_countAtDepth_4, cnt]
    simp (disch := omega) only [iI_zero, iI_len, iI_le, iI_lt, iI_eq, iI_add, iI_sub, iI_mul, Option.bind_some]
    rw [if_pos (by omega), Int.add_zero]
  | succ k ih =>
    intro f c x hf h0 hx hc hc2
    obtain ⟨f, rfl⟩ : ∃ g, f = g + 1 := ⟨f - 1, by omega⟩
    have b := T.1.bd x
    rw [mX3_countAtDepth_4]
    simp (disch := omega) only [iI_zero, iI_len, iI_le, iI_lt, iI_eq, iI_add, iI_sub, iI_mul, Option.bind_some, dOf T]
    rw [if_neg (by omega)]
    by_cases g : F x = e
    · rw [if_pos g, cnt_yes (by simpa using g), ih f (c + 1) (x + 1) (by omega) (by omega) (by omega) (by omega) (by omega), ← Int.add_assoc]
    · rw [if_neg g, cnt_no (by simpa using g), ih f c (x + 1) (by omega) (by omega) (by omega) (by omega) (by omega)]
theorem findAtDepth_5 (T : TR N F G (iI N) d lb) (e j : Int) (he : -2147483648 ≤ e) (he2 : e < 2147483648) (hj : -2147483648 ≤ j) (hj2 : j < 2147483648) : ∀ (k f : Nat) (c x : Int), k < f → 0 ≤ x → x + k = N → 0 ≤ c → c + k ≤ 1000 → mX3_findAtDepth_5 f (iI N) d (iI e) (iI j) (iI c) (iI x) = some (iI (kth (fun y => decide (F y = e)) (-5) k x (j - c))) := by
  have hN := T.1.nn
  intro k
  induction k with
  | zero =>
    intro f c x hf h0 hx hc hc2
    obtain ⟨f, rfl⟩ : ∃ g, f = g + 1 := ⟨f - 1, by omega⟩
    rw [mX3_findAtDepth_5, kth]
    simp (disch := omega) only [iI_zero, iI_len, iI_le, iI_lt, iI_eq, iI_add, iI_sub, iI_mul, Option.bind_some]
    rw [if_pos (by omega)]
  | succ k ih =>
    intro f c x hf h0 hx hc hc2
    obtain ⟨f, rfl⟩ : ∃ g, f = g + 1 := ⟨f - 1, by omega⟩
    have b := T.1.bd x
    rw [mX3_findAtDepth_5]
    simp (disch := omega) only [iI_zero, iI_len, iI_le, iI_lt, iI_eq, iI_add, iI_sub, iI_mul, Option.bind_some, dOf T]
    rw [if_neg (by omega)]
    by_cases g : F x = e
    · rw [if_pos g]
      by_cases q : c = j
      · rw [if_pos q, kth_here (by simpa using g) (by omega)]
      · rw [if_neg q, kth_yes (by simpa using g) (by omega), ih f (c + 1) (x + 1) (by omega) (by omega) (by omega) (by omega) (by omega), show j - (c + 1) = j - c - 1 by omega]
    · rw [if_neg g, kth_no (by simpa using g), ih f c (x + 1) (by omega) (by omega) (by omega) (by omega) (by omega)]
/-- opened before a position: how many -/
def Ob (F : Int → Int) (N p : Int) : Int := fst (fun y => decide (p ≤ 2 * y - F y)) N.toNat 0
theorem openedBefore_2 (T : TR N F G (iI N) d lb) (p : Int) (hp : -2147483648 ≤ p) (hp2 : p < 2147483648) : ∀ (k f : Nat) (x : Int), k < f → 0 ≤ x → x + k = N → mX3_openedBefore_2 f (iI N) d (iI p) (iI x) = some (iI (fst (fun y => decide (p ≤ 2 * y - F y)) k x)) := by
  have hN := T.1.nn
  intro k
  induction k with
  | zero =>
    intro f x hf h0 hx
    obtain ⟨f, rfl⟩ : ∃ g, f = g + 1 := ⟨f - 1, by omega⟩
    rw [mX3_openedBefore_2, fst]
    simp (disch := omega) only [iI_zero, iI_len, iI_le, iI_lt, iI_eq, iI_add, iI_sub, iI_mul, Option.bind_some]
    rw [if_pos (by omega)]
  | succ k ih =>
    intro f x hf h0 hx
    obtain ⟨f, rfl⟩ : ∃ g, f = g + 1 := ⟨f - 1, by omega⟩
    have b := T.1.bd x
    have ih := ih f (x + 1) (by omega) (by omega) (by omega)
    rw [mX3_openedBefore_2, openingOf' T x (by omega) (by omega)]
    simp (disch := omega) only [iI_zero, iI_len, iI_le, iI_lt, iI_eq, iI_add, iI_sub, iI_mul, Option.bind_some]
    rw [if_neg (by omega)]
    by_cases c : p ≤ 2 * x - F x
    · rw [if_pos c, fst_yes (by simpa using c)]
    · rw [if_neg c, fst_no (by simpa using c)]
      exact ih
theorem openedBeforeOf (T : TR N F G (iI N) d lb) (p : Int) (hp : -2147483648 ≤ p) (hp2 : p < 2147483648) : mX3_openedBefore (iI N) d (iI p) = some (iI (Ob F N p)) := by
  have hN := T.1.nn
  unfold mX3_openedBefore
  exact openedBefore_2 T p hp hp2 _ _ _ (by rw [FU_big]; omega) (by omega) (by omega)
theorem excessBeforeOf (T : TR N F G (iI N) d lb) (p : Int) (hp : -2147483648 ≤ p) (hp2 : p < 2147483648) : mX3_excessBefore (iI N) d (iI p) = some (iI (2 * Ob F N p - p)) := by
  unfold mX3_excessBefore
  rw [openedBeforeOf T p hp hp2]
  simp (disch := omega) only [iI_zero, iI_len, iI_le, iI_lt, iI_eq, iI_add, iI_sub, iI_mul, Option.bind_some]
theorem opensAtOf (T : TR N F G (iI N) d lb) (v p : Int) (h : 0 ≤ v) (h2 : v < 1000) (hp : -2147483648 ≤ p) (hp2 : p < 2147483648) : mX3_opensAt (iI N) d (iI v) (iI p) = iI (if v < N ∧ 2 * v - F v = p then 1 else 0) := by
  have hN := T.1.nn
  have b := T.1.bd v
  unfold mX3_opensAt
  rw [openingOf' T v (by omega) (by omega)]
  simp (disch := omega) only [iI_zero, iI_len, iI_le, iI_lt, iI_eq, iI_add, iI_sub, iI_mul, Option.bind_some, hasOf T]
  by_cases c : v < N
  · rw [if_pos (by omega : 0 ≤ v ∧ v < N), if_neg (by omega)]
    by_cases g : 2 * v - F v = p
    · rw [if_pos g, if_pos ⟨c, g⟩]
    · rw [if_neg g, if_neg (fun q => g q.2)]
  · rw [if_neg (by omega : ¬ (0 ≤ v ∧ v < N)), if_pos rfl, if_neg (fun q => c q.1)]
theorem countLabel_12 (T : TR N F G (iI N) d lb) (a : Int32) (g e : Int) (hg : -2147483648 ≤ g) (hg2 : g < 2147483648) (he : e ≤ N) : ∀ (k f : Nat) (c x : Int), k < f → 0 ≤ x → x + k = e → 0 ≤ c → c + k ≤ 1000 → mX3_countLabel_12 f (iI N) d lb a (iI g) (iI e) (iI c) (iI x) = some (iI (c + cnt (fun y => decide (G y = g)) k x)) := by
  have hN := T.1.nn
  intro k
  induction k with
  | zero =>
    intro f c x hf h0 hx hc hc2
    obtain ⟨f, rfl⟩ : ∃ g, f = g + 1 := ⟨f - 1, by omega⟩
    rw [mX3_countLabel_12, cnt]
    simp (disch := omega) only [iI_zero, iI_len, iI_le, iI_lt, iI_eq, iI_add, iI_sub, iI_mul, Option.bind_some]
    rw [if_pos (by omega), Int.add_zero]
  | succ k ih =>
    intro f c x hf h0 hx hc hc2
    obtain ⟨f, rfl⟩ : ∃ g, f = g + 1 := ⟨f - 1, by omega⟩
    have b := T.1.lab x h0 (by omega)
    rw [mX3_countLabel_12]
    simp (disch := omega) only [iI_zero, iI_len, iI_le, iI_lt, iI_eq, iI_add, iI_sub, iI_mul, Option.bind_some, lOf T]
    rw [if_neg (by omega)]
    by_cases q : G x = g
    · rw [if_pos q, cnt_yes (by simpa using q), ih f (c + 1) (x + 1) (by omega) (by omega) (by omega) (by omega) (by omega), ← Int.add_assoc]
    · rw [if_neg q, cnt_no (by simpa using q), ih f c (x + 1) (by omega) (by omega) (by omega) (by omega) (by omega)]
theorem countLabelOf (T : TR N F G (iI N) d lb) (v g : Int) (h : 0 ≤ v) (h2 : v < N) (hg : -2147483648 ≤ g) (hg2 : g < 2147483648) : mX3_countLabel (iI N) d lb (iI v) (iI g) = some (iI (cnt (fun y => decide (G y = g)) (En F N v - v).toNat v)) := by
  have hN := T.1.nn
  have e := T.1.en v h h2
  unfold mX3_countLabel
  rw [endOf T v h h2]
  simp (disch := omega) only [iI_zero, iI_len, iI_le, iI_lt, iI_eq, iI_add, iI_sub, iI_mul, Option.bind_some]
  rw [countLabel_12 T _ g _ hg hg2 e.2.1 (En F N v - v).toNat _ 0 v (by rw [FU_big]; omega) (by omega) (by omega) (by omega) (by omega), Int.zero_add]
theorem findLabel_13 (T : TR N F G (iI N) d lb) (a : Int32) (g e j : Int) (hg : -2147483648 ≤ g) (hg2 : g < 2147483648) (hj : -2147483648 ≤ j) (hj2 : j < 2147483648) (he : e ≤ N) : ∀ (k f : Nat) (c x : Int), k < f → 0 ≤ x → x + k = e → 0 ≤ c → c + k ≤ 1000 → mX3_findLabel_13 f (iI N) d lb a (iI g) (iI j) (iI e) (iI c) (iI x) = some (iI (kth (fun y => decide (G y = g)) (-5) k x (j - c))) := by
  have hN := T.1.nn
  intro k
  induction k with
  | zero =>
    intro f c x hf h0 hx hc hc2
    obtain ⟨f, rfl⟩ : ∃ g, f = g + 1 := ⟨f - 1, by omega⟩
    rw [mX3_findLabel_13, kth]
    simp (disch := omega) only [iI_zero, iI_len, iI_le, iI_lt, iI_eq, iI_add, iI_sub, iI_mul, Option.bind_some]
    rw [if_pos (by omega)]
  | succ k ih =>
    intro f c x hf h0 hx hc hc2
    obtain ⟨f, rfl⟩ : ∃ g, f = g + 1 := ⟨f - 1, by omega⟩
    have b := T.1.lab x h0 (by omega)
    rw [mX3_findLabel_13]
    simp (disch := omega) only [iI_zero, iI_len, iI_le, iI_lt, iI_eq, iI_add, iI_sub, iI_mul, Option.bind_some, lOf T]
    rw [if_neg (by omega)]
    by_cases q : G x = g
    · rw [if_pos q]
      by_cases t : c = j
      · rw [if_pos t, kth_here (by simpa using q) (by omega)]
      · rw [if_neg t, kth_yes (by simpa using q) (by omega), ih f (c + 1) (x + 1) (by omega) (by omega) (by omega) (by omega) (by omega), show j - (c + 1) = j - c - 1 by omega]
    · rw [if_neg q, kth_no (by simpa using q), ih f c (x + 1) (by omega) (by omega) (by omega) (by omega) (by omega)]
theorem findLabelOf (T : TR N F G (iI N) d lb) (v g j : Int) (h : 0 ≤ v) (h2 : v < N) (hg : -2147483648 ≤ g) (hg2 : g < 2147483648) (hj : -2147483648 ≤ j) (hj2 : j < 2147483648) : mX3_findLabel (iI N) d lb (iI v) (iI g) (iI j) = some (iI (kth (fun y => decide (G y = g)) (-5) (En F N v - v).toNat v j)) := by
  have hN := T.1.nn
  have e := T.1.en v h h2
  unfold mX3_findLabel
  rw [endOf T v h h2]
  simp (disch := omega) only [iI_zero, iI_len, iI_le, iI_lt, iI_eq, iI_add, iI_sub, iI_mul, Option.bind_some]
  rw [findLabel_13 T _ g _ j hg hg2 hj hj2 e.2.1 (En F N v - v).toNat _ 0 v (by rw [FU_big]; omega) (by omega) (by omega) (by omega) (by omega), Int.sub_zero]
/-- the nearest place above with a label -/
def Fa (F G : Int → Int) (g : Int) : Nat → Int → Int → Int
  | 0, _, _ => -5
  | k + 1, x, e => if e ≤ F x then Fa F G g k (x - 1) e else (if G x = g then x else Fa F G g k (x - 1) (F x))
theorem findAncestor_11 (T : TR N F G (iI N) d lb) (a : Int32) (g : Int) (hg : -2147483648 ≤ g) (hg2 : g < 2147483648) : ∀ (k f : Nat) (e x : Int), k < f → x + 1 = k → x < N → 0 ≤ e → e ≤ 99 → mX3_findAncestor_11 f (iI N) d lb a (iI g) (iI e) (iI x) = some (iI (Fa F G g k x e)) := by
  have hN := T.1.nn
  intro k
  induction k with
  | zero =>
    intro f e x hf hx hx2 he he2
    obtain ⟨f, rfl⟩ : ∃ g, f = g + 1 := ⟨f - 1, by omega⟩
    rw [mX3_findAncestor_11, Fa]
    simp (disch := omega) only [iI_zero, iI_len, iI_le, iI_lt, iI_eq, iI_add, iI_sub, iI_mul, Option.bind_some]
    rw [if_pos (by omega)]
  | succ k ih =>
    intro f e x hf hx hx2 he he2
    obtain ⟨f, rfl⟩ : ∃ g, f = g + 1 := ⟨f - 1, by omega⟩
    have b := T.1.bd x
    have b2 := T.1.lab x (by omega) hx2
    rw [mX3_findAncestor_11, Fa]
    simp (disch := omega) only [iI_zero, iI_len, iI_le, iI_lt, iI_eq, iI_add, iI_sub, iI_mul, Option.bind_some, dOf T, lOf T]
    rw [if_neg (by omega), show x + -1 = x - 1 by omega, ih f e (x - 1) (by omega) (by omega) (by omega) he he2, ih f (F x) (x - 1) (by omega) (by omega) (by omega) b.1 b.2]
    by_cases c : e ≤ F x
    · rw [if_pos c, if_pos c]
    · rw [if_neg c, if_neg c]
      by_cases q : G x = g
      · rw [if_pos q, if_pos q]
      · rw [if_neg q, if_neg q]
theorem findAncestorOf (T : TR N F G (iI N) d lb) (v g : Int) (h : 0 ≤ v) (h2 : v < N) (hg : -2147483648 ≤ g) (hg2 : g < 2147483648) : mX3_findAncestor (iI N) d lb (iI v) (iI g) = some (iI (Fa F G g v.toNat (v - 1) (F v))) := by
  have hN := T.1.nn
  have b := T.1.bd v
  unfold mX3_findAncestor
  simp (disch := omega) only [iI_zero, iI_len, iI_le, iI_lt, iI_eq, iI_add, iI_sub, iI_mul, Option.bind_some, dOf T]
  exact findAncestor_11 T _ g hg hg2 _ _ _ _ (by rw [FU_big]; omega) (by omega) (by omega) b.1 b.2
/-- equal from the i-th on -/
def Ss (F G : Int → Int) (v w : Int) : Nat → Int → Bool
  | 0, _ => true
  | k + 1, i => decide (G (v + i) = G (w + i)) && (decide (F (v + i) - F v = F (w + i) - F w) && Ss F G v w k (i + 1))
theorem sameSubtrees_33 (T : TR N F G (iI N) d lb) (v w m : Int) (hv : 0 ≤ v) (hw : 0 ≤ w) (hv2 : v + m ≤ N) (hw2 : w + m ≤ N) : ∀ (k f : Nat) (i : Int), k < f → 0 ≤ i → i + k = m → mX3_sameSubtrees_33 f (iI N) d lb (iI v) (iI w) (iI m) (iI (F w - F v)) (iI i) = some (iI (if Ss F G v w k i = true then 1 else 0)) := by
  have hN := T.1.nn
  have bv := T.1.bd v
  have bw := T.1.bd w
  intro k
  induction k with
  | zero =>
    intro f i hf h0 hx
    obtain ⟨f, rfl⟩ : ∃ g, f = g + 1 := ⟨f - 1, by omega⟩
    rw [mX3_sameSubtrees_33, Ss]
    simp (disch := omega) only [iI_zero, iI_len, iI_le, iI_lt, iI_eq, iI_add, iI_sub, iI_mul, Option.bind_some]
    rw [if_pos (by omega), if_pos trivial]
  | succ k ih =>
    intro f i hf h0 hx
    obtain ⟨f, rfl⟩ : ∃ g, f = g + 1 := ⟨f - 1, by omega⟩
    have b1 := T.1.bd (v + i)
    have b2 := T.1.bd (w + i)
    have c1 := T.1.lab (v + i) (by omega) (by omega)
    have c2 := T.1.lab (w + i) (by omega) (by omega)
    rw [mX3_sameSubtrees_33, Ss]
    simp (disch := omega) only [iI_zero, iI_len, iI_le, iI_lt, iI_eq, iI_add, iI_sub, iI_mul, Option.bind_some, dOf T, lOf T]
    rw [if_neg (by omega), ih f (i + 1) (by omega) (by omega) (by omega)]
    by_cases q : G (v + i) = G (w + i)
    · rw [if_pos q]
      by_cases t : F (v + i) + (F w - F v) = F (w + i)
      · rw [if_pos t]
        have t2 : F (v + i) - F v = F (w + i) - F w := by omega
        simp [q, t2]
      · rw [if_neg t]
        have t2 : ¬ (F (v + i) - F v = F (w + i) - F w) := by omega
        simp [t2]
    · rw [if_neg q]
      simp [q]
/-- equal subtrees -/
def Eq2 (F G : Int → Int) (N v w : Int) : Bool := decide (En F N w - w = En F N v - v) && Ss F G v w (En F N v - v).toNat 0
theorem sameSubtreesOf (T : TR N F G (iI N) d lb) (v w : Int) (hv : 0 ≤ v) (hv2 : v < N) (hw : 0 ≤ w) (hw2 : w < N) : mX3_sameSubtrees (iI N) d lb (iI v) (iI w) = some (iI (if Eq2 F G N v w = true then 1 else 0)) := by
  have hN := T.1.nn
  have bv := T.1.bd v
  have bw := T.1.bd w
  have ev := T.1.en v hv hv2
  have ew := T.1.en w hw hw2
  unfold mX3_sameSubtrees Eq2
  rw [sizeOf' T v hv hv2, sizeOf' T w hw hw2]
  simp (disch := omega) only [iI_zero, iI_len, iI_le, iI_lt, iI_eq, iI_add, iI_sub, iI_mul, Option.bind_some, dOf T]
  by_cases c : En F N w - w = En F N v - v
  · rw [if_pos c, sameSubtrees_33 T v w _ hv hw (by omega) (by omega) (En F N v - v).toNat _ 0 (by rw [FU_big]; omega) (by omega) (by omega)]
    simp [c]
  · rw [if_neg c]
    simp [c]
theorem countEqual_4 (T : TR N F G (iI N) d lb) (v : Int) (hv : 0 ≤ v) (hv2 : v < N) : ∀ (k f : Nat) (c x : Int), k < f → 0 ≤ x → x + k = N → 0 ≤ c → c + k ≤ 1000 → mX3_countEqual_4 f (iI N) d lb (iI v) (iI c) (iI x) = some (iI (c + cnt (Eq2 F G N v) k x)) := by
  have hN := T.1.nn
  intro k
  induction k with
  | zero =>
    intro f c x hf h0 hx hc hc2
    obtain ⟨f, rfl⟩ : ∃ g, f = g + 1 := ⟨f - 1, by omega⟩
    rw [mX3_countEqual_4, cnt]
    simp (disch := omega) only [iI_zero, iI_len, iI_le, iI_lt, iI_eq, iI_add, iI_sub, iI_mul, Option.bind_some]
    rw [if_pos (by omega), Int.add_zero]
  | succ k ih =>
    intro f c x hf h0 hx hc hc2
    obtain ⟨f, rfl⟩ : ∃ g, f = g + 1 := ⟨f - 1, by omega⟩
    rw [mX3_countEqual_4, sameSubtreesOf T v x hv hv2 h0 (by omega)]
    by_cases q : Eq2 F G N v x = true
    · rw [if_pos q, cnt_yes q]
      simp (disch := omega) only [iI_zero, iI_len, iI_le, iI_lt, iI_eq, iI_add, iI_sub, iI_mul, Option.bind_some]
      rw [if_neg (by omega), if_neg (by omega), ih f (c + 1) (x + 1) (by omega) (by omega) (by omega) (by omega) (by omega), ← Int.add_assoc]
    · rw [if_neg q, cnt_no q]
      simp (disch := omega) only [iI_zero, iI_len, iI_le, iI_lt, iI_eq, iI_add, iI_sub, iI_mul, Option.bind_some]
      rw [if_neg (by omega), if_pos trivial, ih f c (x + 1) (by omega) (by omega) (by omega) (by omega) (by omega)]
theorem countEqualOf (T : TR N F G (iI N) d lb) (v : Int) (hv : 0 ≤ v) (hv2 : v < N) : mX3_countEqual (iI N) d lb (iI v) = some (iI (cnt (Eq2 F G N v) N.toNat 0)) := by
  have hN := T.1.nn
  unfold mX3_countEqual
  rw [countEqual_4 T v hv hv2 N.toNat _ 0 0 (by rw [FU_big]; omega) (by omega) (by omega) (by omega) (by omega), Int.zero_add]
/-- signs behind a label in the text -/
def Sg (F : Int → Int) (v : Int) : Int := if Lf F v = true then F v - F (v + 1) else 1
theorem TV.sg (T : TV N F G) (v : Int) : 0 ≤ Sg F v ∧ Sg F v ≤ 99 := by
  have b := T.bd v
  have b2 := T.bd (v + 1)
  unfold Sg Lf
  by_cases c : F (v + 1) ≤ F v
  · rw [if_pos (by simpa using c)]; omega
  · rw [if_neg (by simpa using c)]; omega
theorem signsBehindOf (T : TR N F G (iI N) d lb) (v : Int) (h : 0 ≤ v) (h2 : v < N) : mX3_signsBehind (iI N) d (iI v) = iI (Sg F v) := by
  have hN := T.1.nn
  unfold mX3_signsBehind Sg
  rw [isLeafOf T v (by omega) (by omega)]
  by_cases c : Lf F v = true
  · rw [if_pos c, if_pos c]
    simp (disch := omega) only [iI_zero, iI_len, iI_le, iI_lt, iI_eq, iI_add, iI_sub, iI_mul, Option.bind_some, dOf T]
    rw [if_neg (by omega)]
  · rw [if_neg c, if_neg c]
    simp (disch := omega) only [iI_zero, iI_len, iI_le, iI_lt, iI_eq, iI_add, iI_sub, iI_mul, Option.bind_some, dOf T]
    rw [if_pos trivial]
/-- length of the text from x on -/
def Wl (F : Int → Int) : Nat → Int → Int
  | 0, _ => 0
  | k + 1, x => 1 + Sg F x + Wl F k (x + 1)
theorem writtenLength_4 (T : TR N F G (iI N) d lb) : ∀ (k f : Nat) (c x : Int), k < f → 0 ≤ x → x + k = N → 0 ≤ c → c + 100 * k ≤ 100000 → mX3_writtenLength_4 f (iI N) d (iI c) (iI x) = some (iI (c + Wl F k x)) := by
  have hN := T.1.nn
  intro k
  induction k with
  | zero =>
    intro f c x hf h0 hx hc hc2
    obtain ⟨f, rfl⟩ : ∃ g, f = g + 1 := ⟨f - 1, by omega⟩
    rw [mX3_writtenLength_4, Wl]
    simp (disch := omega) only [iI_zero, iI_len, iI_le, iI_lt, iI_eq, iI_add, iI_sub, iI_mul, Option.bind_some]
    rw [if_pos (by omega), Int.add_zero]
  | succ k ih =>
    intro f c x hf h0 hx hc hc2
    obtain ⟨f, rfl⟩ : ∃ g, f = g + 1 := ⟨f - 1, by omega⟩
    have b := T.1.sg x
    rw [mX3_writtenLength_4, Wl, signsBehindOf T x h0 (by omega)]
    simp (disch := omega) only [iI_zero, iI_len, iI_le, iI_lt, iI_eq, iI_add, iI_sub, iI_mul, Option.bind_some]
    rw [if_neg (by omega), ih f _ (x + 1) (by omega) (by omega) (by omega) (by omega) (by omega), Int.add_assoc c]
theorem writtenLengthOf (T : TR N F G (iI N) d lb) : mX3_writtenLength (iI N) d = some (iI (Wl F N.toNat 0)) := by
  have hN := T.1.nn
  unfold mX3_writtenLength
  rw [writtenLength_4 T N.toNat _ 0 0 (by rw [FU_big]; omega) (by omega) (by omega) (by omega) (by omega), Int.zero_add]
/-- the sign at place q, from x on, whose label stands at s -/
def Wa (F G : Int → Int) (q : Int) : Nat → Int → Int → Int
  | 0, _, _ => -5
  | k + 1, s, x => if q = s then G x else (if s + 1 + Sg F x ≤ q then Wa F G q k (s + 1 + Sg F x) (x + 1) else (if Lf F x = true then 41 else 40))
theorem writtenAt_4 (T : TR N F G (iI N) d lb) (q : Int) (hq : -2147483648 ≤ q) (hq2 : q < 2147483648) : ∀ (k f : Nat) (s x : Int), k < f → 0 ≤ x → x + k = N → 0 ≤ s → s + 100 * k ≤ 100000 → mX3_writtenAt_4 f (iI N) d lb (iI q) (iI s) (iI x) = some (iI (Wa F G q k s x)) := by
  have hN := T.1.nn
  intro k
  induction k with
  | zero =>
    intro f s x hf h0 hx hc hc2
    obtain ⟨f, rfl⟩ : ∃ g, f = g + 1 := ⟨f - 1, by omega⟩
    rw [mX3_writtenAt_4, Wa]
    simp (disch := omega) only [iI_zero, iI_len, iI_le, iI_lt, iI_eq, iI_add, iI_sub, iI_mul, Option.bind_some]
    rw [if_pos (by omega)]
  | succ k ih =>
    intro f s x hf h0 hx hc hc2
    obtain ⟨f, rfl⟩ : ∃ g, f = g + 1 := ⟨f - 1, by omega⟩
    have b := T.1.sg x
    rw [mX3_writtenAt_4, Wa, signsBehindOf T x h0 (by omega), isLeafOf T x (by omega) (by omega)]
    simp (disch := omega) only [iI_zero, iI_len, iI_le, iI_lt, iI_eq, iI_add, iI_sub, iI_mul, Option.bind_some, lOf T]
    rw [if_neg (by omega), ih f _ (x + 1) (by omega) (by omega) (by omega) (by omega) (by omega)]
    by_cases c : q = s
    · rw [if_pos c, if_pos c]
    · rw [if_neg c, if_neg c]
      by_cases t : s + 1 + Sg F x ≤ q
      · rw [if_pos t, if_pos t]
      · rw [if_neg t, if_neg t]
        by_cases l : Lf F x = true
        · simp [l]
        · simp [l]
theorem writtenAtOf (T : TR N F G (iI N) d lb) (q : Int) (hq : -2147483648 ≤ q) (hq2 : q < 2147483648) : mX3_writtenAt (iI N) d lb (iI q) = some (iI (Wa F G q N.toNat 0 0)) := by
  have hN := T.1.nn
  unfold mX3_writtenAt
  exact writtenAt_4 T q hq hq2 _ _ _ _ (by rw [FU_big]; omega) (by omega) (by omega) (by omega) (by omega)
end TREAD2

