/-! 32 (out of whole's 12) -/
/-! 12: what the landed code's tree readers answer, of a tree (N, F, G) -/
section TREAD
variable {N : Int} {F G : Int → Int} {d lb : Nat → Int32}
theorem FU_big : FU = 4096 := rfl
theorem iI_ite (c : Prop) [Decidable c] (a b : Int) : (if c then iI a else iI b) = iI (if c then a else b) := by
  by_cases h : c
  · rw [if_pos h, if_pos h]
  · rw [if_neg h, if_neg h]
theorem hasOf (T : TR N F G (iI N) d lb) (z : Int) (h1 : -2147483648 ≤ z) (h2 : z < 2147483648) : mX3_has (iI N) (iI z) = iI (if 0 ≤ z ∧ z < N then 1 else 0) := by
  have hN := T.1.nn
  unfold mX3_has
  simp (disch := omega) only [iI_zero, iI_len, iI_le, iI_lt, iI_eq, iI_add, iI_sub, iI_mul, Option.bind_some]
  by_cases a : z < 0
  · rw [if_pos a, if_neg (by omega)]
  · rw [if_neg a]
    by_cases b : N ≤ z
    · rw [if_pos b, if_neg (by omega)]
    · rw [if_neg b, if_pos (by omega)]
theorem getOf (len : Nat) (f : Nat → Int32) (z : Int) (hl : (len : Int) < 2147483648) (h1 : 0 ≤ z) (h2 : z < len) : mX4_get len f (iI z) = f z.toNat := by
  unfold mX4_get
  simp (disch := omega) only [iI_zero, iI_len, iI_le, iI_lt, iI_eq, iI_add, iI_sub, iI_mul, Option.bind_some, iI_ix]
  rw [if_neg (by omega), if_neg (by omega)]
theorem dOf (T : TR N F G (iI N) d lb) (z : Int) (h1 : -2147483648 ≤ z) (h2 : z < 2147483648) : mX3_depthOf (iI N) d (iI z) = iI (F z) := by
  have hN := T.1.nn
  unfold mX3_depthOf
  rw [hasOf T z h1 h2]
  by_cases c : 0 ≤ z ∧ z < N
  · simp (disch := omega) only [iI_zero, iI_len, iI_le, iI_lt, iI_eq, iI_add, iI_sub, iI_mul, Option.bind_some]
    rw [if_pos c, if_neg (by omega), getOf 100 d z (by omega) c.1 (by omega)]
    exact T.2.2.1 z c.1 c.2
  · rw [if_neg c, iI_zero, if_pos rfl, T.1.out z (by omega)]
theorem lOf (T : TR N F G (iI N) d lb) (z : Int) (h1 : 0 ≤ z) (h2 : z < N) : mX3_labelOf lb (iI z) = iI (G z) := by
  have hN := T.1.nn
  unfold mX3_labelOf
  rw [getOf 100 lb z (by omega) h1 (by omega)]
  exact T.2.2.2 z h1 h2
theorem endOf_10 (T : TR N F G (iI N) d lb) (a : Int32) (e : Int) (he : 0 ≤ e) (he2 : e ≤ 99) : ∀ (k f : Nat) (x : Int), k < f → 0 ≤ x → x + k = N → mX3_endOf_10 f (iI N) d a (iI e) (iI x) = some (iI (fst (fun y => decide (F y ≤ e)) k x)) := by
  have hN := T.1.nn
  intro k
  induction k with
  | zero =>
    intro f x hf h0 hx
    obtain ⟨f, rfl⟩ : ∃ g, f = g + 1 := ⟨f - 1, by omega⟩
    rw [mX3_endOf_10, fst]
    simp (disch := omega) only [iI_zero, iI_len, iI_le, iI_lt, iI_eq, iI_add, iI_sub, iI_mul, Option.bind_some]
    rw [if_pos (by omega), show x = N by omega]
  | succ k ih =>
    intro f x hf h0 hx
    obtain ⟨f, rfl⟩ : ∃ g, f = g + 1 := ⟨f - 1, by omega⟩
    have b := T.1.bd x
    have ih := ih f (x + 1) (by omega) (by omega) (by omega)
    rw [mX3_endOf_10]
    simp (disch := omega) only [iI_zero, iI_len, iI_le, iI_lt, iI_eq, iI_add, iI_sub, iI_mul, Option.bind_some, dOf T]
    rw [if_neg (by omega)]
    by_cases c : F x ≤ e
    · rw [if_neg (by omega), fst_yes (by simpa using c)]
    · rw [if_pos (by omega), fst_no (by simpa using c)]
      exact ih
theorem endOf (T : TR N F G (iI N) d lb) (v : Int) (h : 0 ≤ v) (h2 : v < N) : mX3_endOf (iI N) d (iI v) = some (iI (En F N v)) := by
  have hN := T.1.nn
  have b := T.1.bd v
  unfold mX3_endOf En
  simp (disch := omega) only [iI_zero, iI_len, iI_le, iI_lt, iI_eq, iI_add, iI_sub, iI_mul, Option.bind_some, dOf T]
  exact endOf_10 T _ _ b.1 b.2 _ _ _ (by rw [FU_big]; omega) (by omega) (by omega)
theorem sizeOf' (T : TR N F G (iI N) d lb) (v : Int) (h : 0 ≤ v) (h2 : v < N) : mX3_sizeOf (iI N) d (iI v) = some (iI (En F N v - v)) := by
  unfold mX3_sizeOf
  rw [endOf T v h h2]
  simp (disch := omega) only [iI_zero, iI_len, iI_le, iI_lt, iI_eq, iI_add, iI_sub, iI_mul, Option.bind_some]
theorem climb_2 (T : TR N F G (iI N) d lb) (a : Int32) (e : Int) (he : -2147483648 ≤ e) (he2 : e < 2147483648) : ∀ (k f : Nat) (x : Int), k < f → x + 1 = k → x < N → mX3_climb_2 f (iI N) d a (iI e) (iI x) = some (iI (if dwn (fun y => decide (F y = e)) k x < 0 then -5 else dwn (fun y => decide (F y = e)) k x)) := by
  have hN := T.1.nn
  intro k
  induction k with
  | zero =>
    intro f x hf hx hx2
    obtain ⟨f, rfl⟩ : ∃ g, f = g + 1 := ⟨f - 1, by omega⟩
    rw [mX3_climb_2, dwn]
    simp (disch := omega) only [iI_zero, iI_len, iI_le, iI_lt, iI_eq, iI_add, iI_sub, iI_mul, Option.bind_some]
    rw [if_pos (by omega), if_pos (by omega)]
  | succ k ih =>
    intro f x hf hx hx2
    obtain ⟨f, rfl⟩ : ∃ g, f = g + 1 := ⟨f - 1, by omega⟩
    have b := T.1.bd x
    have ih := ih f (x - 1) (by omega) (by omega) (by omega)
    rw [mX3_climb_2]
    simp (disch := omega) only [iI_zero, iI_len, iI_le, iI_lt, iI_eq, iI_add, iI_sub, iI_mul, Option.bind_some, dOf T]
    rw [if_neg (by omega)]
    by_cases c : F x = e
    · rw [if_pos c, dwn_yes (by simpa using c), if_neg (by omega)]
    · rw [if_neg c, dwn_no (by simpa using c), show x + -1 = x - 1 by omega]
      exact ih
theorem climbOf (T : TR N F G (iI N) d lb) (v e : Int) (h : -1 ≤ v) (h2 : v < N) (he : -2147483648 ≤ e) (he2 : e < 2147483648) : mX3_climb (iI N) d (iI v) (iI e) = some (iI (if Up F v e < 0 then -5 else Up F v e)) := by
  have hN := T.1.nn
  unfold mX3_climb
  exact climb_2 T _ e he he2 _ _ _ (by rw [FU_big]; omega) (by omega) h2
theorem climbIn (T : TR N F G (iI N) d lb) (v e : Int) (h : 0 ≤ v) (h2 : v < N) (he : 0 ≤ e) (he2 : e ≤ F v) : mX3_climb (iI N) d (iI v) (iI e) = some (iI (Up F v e)) := by
  have b := T.1.bd v
  have c := T.1.upSpec v e h h2 he he2
  rw [climbOf T v e (by omega) h2 (by omega) (by omega), if_neg (by omega)]
theorem parentOf' (T : TR N F G (iI N) d lb) (v : Int) (h : 0 ≤ v) (h2 : v < N) : mX3_parentOf (iI N) d (iI v) = some (iI (Pa F v)) := by
  have hN := T.1.nn
  have b := T.1.bd v
  unfold mX3_parentOf Pa
  simp (disch := omega) only [iI_zero, iI_len, iI_le, iI_lt, iI_eq, iI_add, iI_sub, iI_mul, Option.bind_some, dOf T]
  by_cases c : v = 0
  · rw [if_pos c, if_pos c]
  · have p := T.1.pos v (by omega) h2
    rw [if_neg c, if_neg c, climbIn T v (F v - 1) h h2 (by omega) (by omega)]
    rfl
/-- children of v: places behind it whose depth is one more -/
def Ch (F : Int → Int) (v : Int) : Int → Bool := fun y => decide (F y = F v + 1)
theorem childCount_13 (T : TR N F G (iI N) d lb) (v e : Int) (hv : 0 ≤ v) (hv2 : v < N) (he : e ≤ N) : ∀ (k f : Nat) (c x : Int), k < f → 0 ≤ x → x + k = e → 0 ≤ c → c + k ≤ 1000 → mX3_childCount_13 f (iI N) d (iI v) (iI e) (iI c) (iI x) = some (iI (c + cnt (Ch F v) k x)) := by
  have hN := T.1.nn
  have bv := T.1.bd v
  intro k
  induction k with
  | zero =>
    intro f c x hf h0 hx hc hc2
    obtain ⟨f, rfl⟩ : ∃ g, f = g + 1 := ⟨f - 1, by omega⟩
    rw [mX3_childCount_13, cnt]
    simp (disch := omega) only [iI_zero, iI_len, iI_le, iI_lt, iI_eq, iI_add, iI_sub, iI_mul, Option.bind_some]
    rw [if_pos (by omega), Int.add_zero]
  | succ k ih =>
    intro f c x hf h0 hx hc hc2
    obtain ⟨f, rfl⟩ : ∃ g, f = g + 1 := ⟨f - 1, by omega⟩
    have b := T.1.bd x
    rw [mX3_childCount_13]
    simp (disch := omega) only [iI_zero, iI_len, iI_le, iI_lt, iI_eq, iI_add, iI_sub, iI_mul, Option.bind_some, dOf T]
    rw [if_neg (by omega)]
    by_cases g : F x = F v + 1
    · rw [if_pos g, cnt_yes (by simpa [Ch] using g), ih f (c + 1) (x + 1) (by omega) (by omega) (by omega) (by omega) (by omega), ← Int.add_assoc]
    · rw [if_neg g, cnt_no (by simpa [Ch] using g), ih f c (x + 1) (by omega) (by omega) (by omega) (by omega) (by omega)]
/-- number of children -/
def Cc (F : Int → Int) (N v : Int) : Int := cnt (Ch F v) (En F N v - v - 1).toNat (v + 1)
theorem childCountOf (T : TR N F G (iI N) d lb) (v : Int) (h : 0 ≤ v) (h2 : v < N) : mX3_childCount (iI N) d (iI v) = some (iI (Cc F N v)) := by
  have hN := T.1.nn
  have e := T.1.en v h h2
  unfold mX3_childCount Cc
  rw [endOf T v h h2]
  simp (disch := omega) only [iI_zero, iI_len, iI_le, iI_lt, iI_eq, iI_add, iI_sub, iI_mul, Option.bind_some]
  rw [childCount_13 T v _ h h2 e.2.1 (En F N v - v - 1).toNat _ 0 (v + 1) (by rw [FU_big]; omega) (by omega) (by omega) (by omega) (by omega), Int.zero_add]
theorem startOfPlace_14 (T : TR N F G (iI N) d lb) (v e j : Int) (hv : 0 ≤ v) (hv2 : v < N) (he : e ≤ N) (hj : -2147483648 ≤ j) (hj2 : j < 2147483648) : ∀ (k f : Nat) (c x : Int), k < f → 0 ≤ x → x + k = e → 0 ≤ c → c + k ≤ 1000 → mX3_startOfPlace_14 f (iI N) d (iI v) (iI j) (iI e) (iI c) (iI x) = some (iI (kth (Ch F v) e k x (j - c))) := by
  have hN := T.1.nn
  have bv := T.1.bd v
  intro k
  induction k with
  | zero =>
    intro f c x hf h0 hx hc hc2
    obtain ⟨f, rfl⟩ : ∃ g, f = g + 1 := ⟨f - 1, by omega⟩
    rw [mX3_startOfPlace_14, kth]
    simp (disch := omega) only [iI_zero, iI_len, iI_le, iI_lt, iI_eq, iI_add, iI_sub, iI_mul, Option.bind_some]
    rw [if_pos (by omega)]
  | succ k ih =>
    intro f c x hf h0 hx hc hc2
    obtain ⟨f, rfl⟩ : ∃ g, f = g + 1 := ⟨f - 1, by omega⟩
    have b := T.1.bd x
    rw [mX3_startOfPlace_14]
    simp (disch := omega) only [iI_zero, iI_len, iI_le, iI_lt, iI_eq, iI_add, iI_sub, iI_mul, Option.bind_some, dOf T]
    rw [if_neg (by omega)]
    by_cases g : F x = F v + 1
    · rw [if_pos g]
      by_cases q : c = j
      · rw [if_pos q, kth_here (by simpa [Ch] using g) (by omega)]
      · rw [if_neg q, kth_yes (by simpa [Ch] using g) (by omega), ih f (c + 1) (x + 1) (by omega) (by omega) (by omega) (by omega) (by omega), show j - (c + 1) = j - c - 1 by omega]
    · rw [if_neg g, kth_no (by simpa [Ch] using g), ih f c (x + 1) (by omega) (by omega) (by omega) (by omega) (by omega)]
/-- the child at place j, or the end -/
def Sp (F : Int → Int) (N v j : Int) : Int := kth (Ch F v) (En F N v) (En F N v - v - 1).toNat (v + 1) j
theorem startOfPlaceOf (T : TR N F G (iI N) d lb) (v j : Int) (h : 0 ≤ v) (h2 : v < N) (hj : -2147483648 ≤ j) (hj2 : j < 2147483648) : mX3_startOfPlace (iI N) d (iI v) (iI j) = some (iI (Sp F N v j)) := by
  have hN := T.1.nn
  have e := T.1.en v h h2
  unfold mX3_startOfPlace Sp
  rw [endOf T v h h2]
  simp (disch := omega) only [iI_zero, iI_len, iI_le, iI_lt, iI_eq, iI_add, iI_sub, iI_mul, Option.bind_some]
  rw [startOfPlace_14 T v _ j h h2 e.2.1 hj hj2 (En F N v - v - 1).toNat _ 0 (v + 1) (by rw [FU_big]; omega) (by omega) (by omega) (by omega) (by omega), Int.sub_zero]
/-- leaves -/
def Lf (F : Int → Int) : Int → Bool := fun y => decide (F (y + 1) ≤ F y)
theorem isLeafOf (T : TR N F G (iI N) d lb) (v : Int) (h : -1 ≤ v) (h2 : v < 1000) : mX3_isLeaf (iI N) d (iI v) = iI (if Lf F v = true then 1 else 0) := by
  have b := T.1.bd v
  have b1 := T.1.bd (v + 1)
  unfold mX3_isLeaf
  simp (disch := omega) only [iI_zero, iI_len, iI_le, iI_lt, iI_eq, iI_add, iI_sub, iI_mul, Option.bind_some, dOf T]
  by_cases c : F v < F (v + 1)
  · rw [if_pos c, if_neg (by simpa [Lf] using c)]
  · rw [if_neg c, if_pos (by simpa [Lf] using c)]
theorem leafCount_11 (T : TR N F G (iI N) d lb) (a : Int32) (e : Int) (he : e ≤ N) : ∀ (k f : Nat) (c x : Int), k < f → 0 ≤ x → x + k = e → 0 ≤ c → c + k ≤ 1000 → mX3_leafCount_11 f (iI N) d a (iI e) (iI c) (iI x) = some (iI (c + cnt (Lf F) k x)) := by
  have hN := T.1.nn
  intro k
  induction k with
  | zero =>
    intro f c x hf h0 hx hc hc2
    obtain ⟨f, rfl⟩ : ∃ g, f = g + 1 := ⟨f - 1, by omega⟩
    rw [mX3_leafCount_11, cnt]
    simp (disch := omega) only [iI_zero, iI_len, iI_le, iI_lt, iI_eq, iI_add, iI_sub, iI_mul, Option.bind_some]
    rw [if_pos (by omega), Int.add_zero]
  | succ k ih =>
    intro f c x hf h0 hx hc hc2
    obtain ⟨f, rfl⟩ : ∃ g, f = g + 1 := ⟨f - 1, by omega⟩
    rw [mX3_leafCount_11, isLeafOf T x (by omega) (by omega)]
    by_cases g : Lf F x = true
    · rw [if_pos g, cnt_yes g]
      simp (disch := omega) only [iI_zero, iI_len, iI_le, iI_lt, iI_eq, iI_add, iI_sub, iI_mul, Option.bind_some]
      rw [if_neg (by omega), if_neg (by omega), ih f (c + 1) (x + 1) (by omega) (by omega) (by omega) (by omega) (by omega), ← Int.add_assoc]
    · rw [if_neg g, cnt_no g]
      simp (disch := omega) only [iI_zero, iI_len, iI_le, iI_lt, iI_eq, iI_add, iI_sub, iI_mul, Option.bind_some]
      rw [if_neg (by omega), if_pos trivial, ih f c (x + 1) (by omega) (by omega) (by omega) (by omega) (by omega)]
theorem leafCountOf (T : TR N F G (iI N) d lb) (v : Int) (h : 0 ≤ v) (h2 : v < N) : mX3_leafCount (iI N) d (iI v) = some (iI (cnt (Lf F) (En F N v - v).toNat v)) := by
  have hN := T.1.nn
  have e := T.1.en v h h2
  unfold mX3_leafCount
  rw [endOf T v h h2]
  simp (disch := omega) only [iI_zero, iI_len, iI_le, iI_lt, iI_eq, iI_add, iI_sub, iI_mul, Option.bind_some]
  rw [leafCount_11 T _ _ e.2.1 (En F N v - v).toNat _ 0 v (by rw [FU_big]; omega) (by omega) (by omega) (by omega) (by omega), Int.zero_add]
/-- the first of the deepest -/
def Am (F : Int → Int) : Nat → Int → Int → Int
  | 0, _, b => b
  | k + 1, x, b => Am F k (x + 1) (if F b < F x then x else b)
theorem Am_in : ∀ (k : Nat) (x b : Int), Am F k x b = b ∨ (x ≤ Am F k x b ∧ Am F k x b < x + k)
  | 0, _, _ => Or.inl rfl
  | k + 1, x, b => by
    rw [Am]
    by_cases c : F b < F x
    · rw [if_pos c]
      rcases Am_in k (x + 1) x with h | h
      · exact Or.inr ⟨by omega, by omega⟩
      · exact Or.inr ⟨by omega, by omega⟩
    · rw [if_neg c]
      rcases Am_in k (x + 1) b with h | h
      · exact Or.inl h
      · exact Or.inr ⟨by omega, by omega⟩
theorem deepestOf_13 (T : TR N F G (iI N) d lb) (a : Int32) (e : Int) (he : e ≤ N) : ∀ (k f : Nat) (c x : Int), k < f → 0 ≤ x → x + k = e → 0 ≤ c → c < N → mX3_deepestOf_13 f (iI N) d a (iI e) (iI c) (iI x) = some (iI (Am F k x c)) := by
  have hN := T.1.nn
  intro k
  induction k with
  | zero =>
    intro f c x hf h0 hx hc hc2
    obtain ⟨f, rfl⟩ : ∃ g, f = g + 1 := ⟨f - 1, by omega⟩
    rw [mX3_deepestOf_13, Am]
    simp (disch := omega) only [iI_zero, iI_len, iI_le, iI_lt, iI_eq, iI_add, iI_sub, iI_mul, Option.bind_some]
    rw [if_pos (by omega)]
  | succ k ih =>
    intro f c x hf h0 hx hc hc2
    obtain ⟨f, rfl⟩ : ∃ g, f = g + 1 := ⟨f - 1, by omega⟩
    have b := T.1.bd x
    have b2 := T.1.bd c
    rw [mX3_deepestOf_13, Am]
    simp (disch := omega) only [iI_zero, iI_len, iI_le, iI_lt, iI_eq, iI_add, iI_sub, iI_mul, Option.bind_some, dOf T]
    rw [if_neg (by omega)]
    by_cases g : F c < F x
    · rw [if_neg (by omega), if_pos g, ih f x (x + 1) (by omega) (by omega) (by omega) (by omega) (by omega)]
    · rw [if_pos (by omega), if_neg g, ih f c (x + 1) (by omega) (by omega) (by omega) (by omega) (by omega)]
def Dp (F : Int → Int) (N v : Int) : Int := Am F (En F N v - v - 1).toNat (v + 1) v
theorem deepestOf' (T : TR N F G (iI N) d lb) (v : Int) (h : 0 ≤ v) (h2 : v < N) : mX3_deepestOf (iI N) d (iI v) = some (iI (Dp F N v)) := by
  have hN := T.1.nn
  have e := T.1.en v h h2
  unfold mX3_deepestOf Dp
  rw [endOf T v h h2]
  simp (disch := omega) only [iI_zero, iI_len, iI_le, iI_lt, iI_eq, iI_add, iI_sub, iI_mul, Option.bind_some]
  rw [deepestOf_13 T _ _ e.2.1 (En F N v - v - 1).toNat _ v (v + 1) (by rw [FU_big]; omega) (by omega) (by omega) (by omega) (by omega)]
theorem openingOf' (T : TR N F G (iI N) d lb) (v : Int) (h : -1000 ≤ v) (h2 : v < 1000) : mX3_openingOf (iI N) d (iI v) = iI (2 * v - F v) := by
  unfold mX3_openingOf
  simp (disch := omega) only [iI_zero, iI_len, iI_le, iI_lt, iI_eq, iI_add, iI_sub, iI_mul, Option.bind_some, dOf T]
theorem closingOf' (T : TR N F G (iI N) d lb) (v : Int) (h : 0 ≤ v) (h2 : v < N) : mX3_closingOf (iI N) d (iI v) = some (iI (2 * v - F v + 2 * (En F N v - v) - 1)) := by
  have hN := T.1.nn
  unfold mX3_closingOf
  rw [sizeOf' T v h h2, openingOf' T v (by omega) (by omega)]
  simp (disch := omega) only [iI_zero, iI_len, iI_le, iI_lt, iI_eq, iI_add, iI_sub, iI_mul, Option.bind_some]
def Rk (F : Int → Int) (N v : Int) : Int := En F N v - 1 - F v
theorem postorderOf' (T : TR N F G (iI N) d lb) (v : Int) (h : 0 ≤ v) (h2 : v < N) : mX3_postorderOf (iI N) d (iI v) = some (iI (Rk F N v)) := by
  have hN := T.1.nn
  unfold mX3_postorderOf Rk
  rw [endOf T v h h2]
  simp (disch := omega) only [iI_zero, iI_len, iI_le, iI_lt, iI_eq, iI_add, iI_sub, iI_mul, Option.bind_some, dOf T]
end TREAD

