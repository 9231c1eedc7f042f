/-! 14: what the reference's readers answer, of a tree (N, F, G): the same words as the landed code's -/
theorem gdi {α : Type _} {z : Int} {n : Nat} {i : Decidable (inb (iI z) n)} {k : Option α} (h1 : 0 ≤ z) (h2 : z < n) (h3 : n < 100000) : @ite _ (inb (iI z) n) i k none = k := by
  rw [if_pos]
  rw [iI_inb (by omega) (by omega)]
  exact ⟨h1, h2⟩
section MREAD
variable {N : Int} {F G : Int → Int} {d lb : Nat → Int32}
theorem dAt (T : TR N F G (iI N) d lb) (z : Int) (h1 : 0 ≤ z) (h2 : z < N) : d (iI z).toNatClampNeg = iI (F z) := by
  have hN := T.1.nn
  rw [iI_ix h1 (by omega)]
  exact T.2.2.1 z h1 h2
theorem lAt (T : TR N F G (iI N) d lb) (z : Int) (h1 : 0 ≤ z) (h2 : z < N) : lb (iI z).toNatClampNeg = iI (G z) := by
  have hN := T.1.nn
  rw [iI_ix h1 (by omega)]
  exact T.2.2.2 z h1 h2
theorem inOf (x a b : Int) (h1 : -2147483648 ≤ x) (h2 : x < 2147483648) (h3 : -2147483648 ≤ a) (h4 : a < 2147483648) (h5 : -2147483648 ≤ b) (h6 : b < 2147483648) : mX5_in (iI x) (iI a) (iI b) = iI (if a ≤ x ∧ x ≤ b then 1 else 0) := by
  unfold mX5_in
  simp (disch := omega) only [iI_zero, iI_len, iI_le, iI_lt, iI_eq, iI_add, iI_sub, iI_mul, Option.bind_some]
  by_cases c : x < a
  · rw [if_pos c, if_neg (by omega)]
  · rw [if_neg c]
    by_cases e : b < x
    · rw [if_pos e, if_neg (by omega)]
    · rw [if_neg e, if_pos (by omega)]
theorem noNodeOf (T : TR N F G (iI N) d lb) (z : Int) (h1 : -2147483648 ≤ z) (h2 : z < 2147483648) : mX5_noNode (iI N) (iI z) = iI (if 0 ≤ z ∧ z < N then 0 else 1) := by
  have hN := T.1.nn
  unfold mX5_noNode
  simp (disch := omega) only [iI_zero, iI_len, iI_le, iI_lt, iI_eq, iI_add, iI_sub, iI_mul, Option.bind_some, inOf]
  by_cases c : 0 ≤ z ∧ z < N
  · rw [if_pos (by omega : 0 ≤ z ∧ z ≤ N - 1), if_pos c, if_neg (by omega)]
  · rw [if_neg (by omega : ¬ (0 ≤ z ∧ z ≤ N - 1)), if_neg c, if_pos rfl]
theorem behind_4 (T : TR N F G (iI N) d lb) (v : Int) (hv : 0 ≤ v) (hv2 : v < N) : ∀ (k f : Nat) (x : Int), k < f → 0 ≤ x → x + k = N → mX5_behind_4 f (iI N) d (iI v) (iI x) = some (iI (fst (fun y => decide (F y ≤ F v)) k x)) := by
  have hN := T.1.nn
  have bv := T.1.bd v
  intro k
  induction k with
  | zero =>
    intro f x hf h0 hx
    obtain ⟨f, rfl⟩ : ∃ g, f = g + 1 := ⟨f - 1, by omega⟩
    rw [mX5_behind_4, fst]
    simp (disch := omega) only [iI_zero, iI_len, iI_le, iI_lt, iI_eq, iI_add, iI_sub, iI_mul, Option.bind_some]
    rw [if_pos (by omega)]
  | succ k ih =>
    intro f x hf h0 hx
    obtain ⟨f, rfl⟩ : ∃ g, f = g + 1 := ⟨f - 1, by omega⟩
    have b := T.1.bd x
    have ih := ih f (x + 1) (by omega) (by omega) (by omega)
    rw [mX5_behind_4]
    simp (disch := omega) only [iI_zero, iI_len, iI_le, iI_lt, iI_eq, iI_add, iI_sub, iI_mul, Option.bind_some, gdi, dAt T]
    rw [if_neg (by omega)]
    by_cases c : F x ≤ F v
    · rw [if_pos c, fst_yes (by simpa using c)]
    · rw [if_neg c, fst_no (by simpa using c)]
      exact ih
theorem behindOf (T : TR N F G (iI N) d lb) (v : Int) (h : 0 ≤ v) (h2 : v < N) : mX5_behind (iI N) d (iI v) = some (iI (En F N v)) := by
  have hN := T.1.nn
  unfold mX5_behind En
  simp (disch := omega) only [iI_zero, iI_len, iI_le, iI_lt, iI_eq, iI_add, iI_sub, iI_mul, Option.bind_some]
  exact behind_4 T v h h2 _ _ _ (by rw [FU_big]; omega) (by omega) (by omega)
theorem parentOf_2 (T : TR N F G (iI N) d lb) (v : Int) (hv : 0 ≤ v) (hv2 : v < N) : ∀ (k f : Nat) (x : Int), k < f → x + 1 = k → x < N → mX5_parentOf_2 f d (iI v) (iI x) = some (iI (if dwn (fun y => decide (F y < F v)) k x < 0 then -5 else dwn (fun y => decide (F y < F v)) k x)) := by
  have hN := T.1.nn
  have bv := T.1.bd v
  intro k
  induction k with
  | zero =>
    intro f x hf hx hx2
    obtain ⟨f, rfl⟩ : ∃ g, f = g + 1 := ⟨f - 1, by omega⟩
    rw [mX5_parentOf_2, dwn]
    simp (disch := omega) only [iI_zero, iI_len, iI_le, iI_lt, iI_eq, iI_add, iI_sub, iI_mul, Option.bind_some]
    rw [if_pos (by omega), if_neg (by omega), if_pos (by omega)]
  | succ k ih =>
    intro f x hf hx hx2
    obtain ⟨f, rfl⟩ : ∃ g, f = g + 1 := ⟨f - 1, by omega⟩
    have b := T.1.bd x
    have ih := ih f (x - 1) (by omega) (by omega) (by omega)
    rw [mX5_parentOf_2]
    simp (disch := omega) only [iI_zero, iI_len, iI_le, iI_lt, iI_eq, iI_add, iI_sub, iI_mul, Option.bind_some, gdi, dAt T]
    rw [if_neg (by omega)]
    by_cases c : F x < F v
    · rw [if_pos c, dwn_yes (by simpa using c), if_pos (by omega), if_neg (by omega)]
    · rw [if_neg c, dwn_no (by simpa using c), show x + -1 = x - 1 by omega]
      exact ih
theorem mparentOf (T : TR N F G (iI N) d lb) (v : Int) (h : 0 ≤ v) (h2 : v < N) : mX5_parentOf d (iI v) = some (iI (Pa F v)) := by
  have hN := T.1.nn
  unfold mX5_parentOf
  rw [parentOf_2 T v h h2 (v + 1).toNat _ v (by rw [FU_big]; omega) (by omega) h2]
  by_cases c : v = 0
  · have e : dwn (fun y => decide (F y < F v)) (v + 1).toNat v = -1 := dwn_eq _ _ _ _ (by omega) (by omega) (fun y g1 g2 => by have := T.1.bd y; have e0 := T.1.2.2.1; rw [c, e0]; simp; omega) (fun g => absurd g (by omega))
    rw [e, if_pos (by omega), Pa, if_pos c]
  · have p := T.1.paSpec v (by omega) h2
    have e : dwn (fun y => decide (F y < F v)) (v + 1).toNat v = Pa F v := dwn_eq _ _ _ _ (by omega) (by omega) (fun y g1 g2 => by have := p.2.2.2 y g1 g2; simpa using this) (fun g => by have := p.2.2.1; simp; omega)
    rw [e, if_neg (by omega)]
theorem childCount_6 (T : TR N F G (iI N) d lb) (v : Int) (hv : 0 ≤ v) (hv2 : v < N) : ∀ (k f : Nat) (c x : Int), k < f → 0 ≤ x → x + k = En F N v → 0 ≤ c → c + k ≤ 1000 → mX5_childCount_6 f (iI N) d (iI v) (iI c) (iI x) = some (iI (c + cnt (Ch F v) k x)) := by
  have hN := T.1.nn
  have bv := T.1.bd v
  have ev := T.1.en v hv hv2
  intro k
  induction k with
  | zero =>
    intro f c x hf h0 hx hc hc2
    obtain ⟨f, rfl⟩ : ∃ g, f = g + 1 := ⟨f - 1, by omega⟩
    rw [mX5_childCount_6, cnt, behindOf T v hv hv2]
    simp (disch := omega) only [iI_zero, iI_len, iI_le, iI_lt, iI_eq, iI_add, iI_sub, iI_mul, Option.bind_some]
    rw [if_pos (by omega), Int.add_zero]
  | succ k ih =>
    intro f c x hf h0 hx hc hc2
    obtain ⟨f, rfl⟩ : ∃ g, f = g + 1 := ⟨f - 1, by omega⟩
    have b := T.1.bd x
    rw [mX5_childCount_6, behindOf T v hv hv2]
    simp (disch := omega) only [iI_zero, iI_len, iI_le, iI_lt, iI_eq, iI_add, iI_sub, iI_mul, Option.bind_some, gdi, dAt T]
    rw [if_neg (by omega)]
    by_cases g : F x = F v + 1
    · rw [if_pos g, cnt_yes (by simpa [Ch] using g), ih f (c + 1) (x + 1) (by omega) (by omega) (by omega) (by omega) (by omega), ← Int.add_assoc]
    · rw [if_neg g, cnt_no (by simpa [Ch] using g), Int.add_zero, ih f c (x + 1) (by omega) (by omega) (by omega) (by omega) (by omega)]
theorem mchildCountOf (T : TR N F G (iI N) d lb) (v : Int) (h : 0 ≤ v) (h2 : v < N) : mX5_childCount (iI N) d (iI v) = some (iI (Cc F N v)) := by
  have hN := T.1.nn
  have e := T.1.en v h h2
  unfold mX5_childCount Cc
  simp (disch := omega) only [iI_zero, iI_len, iI_le, iI_lt, iI_eq, iI_add, iI_sub, iI_mul, Option.bind_some]
  rw [childCount_6 T v h h2 (En F N v - v - 1).toNat _ 0 (v + 1) (by rw [FU_big]; omega) (by omega) (by omega) (by omega) (by omega), Int.zero_add]
theorem childOrEnd_14 (T : TR N F G (iI N) d lb) (v e j : Int) (hv : 0 ≤ v) (hv2 : v < N) (he : e ≤ N) (hj : -2147483648 ≤ j) (hj2 : j < 2147483648) : ∀ (k f : Nat) (c x : Int), k < f → 0 ≤ x → x + k = e → 0 ≤ c → c + k ≤ 1000 → mX5_childOrEnd_14 f (iI N) d (iI v) (iI j) (iI c) (iI e) (iI x) = some (iI (kth (Ch F v) e k x (j - c))) := by
  have hN := T.1.nn
  have bv := T.1.bd v
  intro k
  induction k with
  | zero =>
    intro f c x hf h0 hx hc hc2
    obtain ⟨f, rfl⟩ : ∃ g, f = g + 1 := ⟨f - 1, by omega⟩
    rw [mX5_childOrEnd_14, kth]
    simp (disch := omega) only [iI_zero, iI_len, iI_le, iI_lt, iI_eq, iI_add, iI_sub, iI_mul, Option.bind_some]
    rw [if_pos (by omega)]
  | succ k ih =>
    intro f c x hf h0 hx hc hc2
    obtain ⟨f, rfl⟩ : ∃ g, f = g + 1 := ⟨f - 1, by omega⟩
    have b := T.1.bd x
    rw [mX5_childOrEnd_14]
    simp (disch := omega) only [iI_zero, iI_len, iI_le, iI_lt, iI_eq, iI_add, iI_sub, iI_mul, Option.bind_some, gdi, dAt T]
    rw [if_neg (by omega)]
    by_cases g : F x = F v + 1
    · rw [if_pos g]
      by_cases q : c = j
      · rw [if_pos q, kth_here (by simpa [Ch] using g) (by omega)]
      · rw [if_neg q, kth_yes (by simpa [Ch] using g) (by omega), ih f (c + 1) (x + 1) (by omega) (by omega) (by omega) (by omega) (by omega), show j - (c + 1) = j - c - 1 by omega]
    · rw [if_neg g, kth_no (by simpa [Ch] using g), ih f c (x + 1) (by omega) (by omega) (by omega) (by omega) (by omega)]
theorem childOrEndOf (T : TR N F G (iI N) d lb) (v j : Int) (h : 0 ≤ v) (h2 : v < N) (hj : -2147483648 ≤ j) (hj2 : j < 2147483648) : mX5_childOrEnd (iI N) d (iI v) (iI j) = some (iI (Sp F N v j)) := by
  have hN := T.1.nn
  have e := T.1.en v h h2
  unfold mX5_childOrEnd Sp
  rw [behindOf T v h h2]
  simp (disch := omega) only [iI_zero, iI_len, iI_le, iI_lt, iI_eq, iI_add, iI_sub, iI_mul, Option.bind_some]
  rw [childOrEnd_14 T v _ j h h2 e.2.1 hj hj2 (En F N v - v - 1).toNat _ 0 (v + 1) (by rw [FU_big]; omega) (by omega) (by omega) (by omega) (by omega), Int.sub_zero]
theorem heightOf_9 (T : TR N F G (iI N) d lb) (v : Int) (hv : 0 ≤ v) (hv2 : v < N) : ∀ (k f : Nat) (b x : Int), k < f → 0 ≤ x → x + k = En F N v → 0 ≤ b → b < N → mX5_heightOf_9 f (iI N) d (iI v) (iI (F b)) (iI x) = some (iI (F (Am F k x b) - F v)) := by
  have hN := T.1.nn
  have bv := T.1.bd v
  have ev := T.1.en v hv hv2
  intro k
  induction k with
  | zero =>
    intro f b x hf h0 hx hc hc2
    obtain ⟨f, rfl⟩ : ∃ g, f = g + 1 := ⟨f - 1, by omega⟩
    have bb := T.1.bd b
    rw [mX5_heightOf_9, Am, behindOf T v hv hv2]
    simp (disch := omega) only [iI_zero, iI_len, iI_le, iI_lt, iI_eq, iI_add, iI_sub, iI_mul, Option.bind_some, gdi, dAt T]
    rw [if_pos (by omega)]
  | succ k ih =>
    intro f b x hf h0 hx hc hc2
    obtain ⟨f, rfl⟩ : ∃ g, f = g + 1 := ⟨f - 1, by omega⟩
    have bb := T.1.bd b
    have bx := T.1.bd x
    rw [mX5_heightOf_9, Am, behindOf T v hv hv2]
    simp (disch := omega) only [iI_zero, iI_len, iI_le, iI_lt, iI_eq, iI_add, iI_sub, iI_mul, Option.bind_some, gdi, dAt T]
    rw [if_neg (by omega)]
    by_cases g : F b < F x
    · rw [if_neg (by omega), if_pos g, ih f x (x + 1) (by omega) (by omega) (by omega) (by omega) (by omega)]
    · rw [if_pos (by omega), if_neg g, ih f b (x + 1) (by omega) (by omega) (by omega) (by omega) (by omega)]
theorem Am_self (F : Int → Int) (k : Nat) (x : Int) : Am F (k + 1) x x = Am F k (x + 1) x := by
  rw [Am, if_neg (by omega)]
theorem heightOf' (T : TR N F G (iI N) d lb) (v : Int) (h : 0 ≤ v) (h2 : v < N) : mX5_heightOf (iI N) d (iI v) = some (iI (F (Dp F N v) - F v)) := by
  have hN := T.1.nn
  have e := T.1.en v h h2
  unfold mX5_heightOf Dp
  simp (disch := omega) only [iI_zero, iI_len, iI_le, iI_lt, iI_eq, iI_add, iI_sub, iI_mul, Option.bind_some, gdi, dAt T]
  rw [heightOf_9 T v h h2 ((En F N v - v - 1).toNat + 1) _ v v (by rw [FU_big]; omega) (by omega) (by omega) (by omega) (by omega), Am_self]
theorem sibling_4 (T : TR N F G (iI N) d lb) (v : Int) (hv : 0 ≤ v) (hv2 : v < N) : ∀ (k f : Nat) (x : Int), k < f → x + 1 = k → x < N → mX5_sibling_4 f d (iI v) (iI x) = some (iI (if 0 ≤ dwn (fun y => decide (F y ≤ F v)) k x ∧ F (dwn (fun y => decide (F y ≤ F v)) k x) = F v then dwn (fun y => decide (F y ≤ F v)) k x else -5)) := by
  have hN := T.1.nn
  have bv := T.1.bd v
  intro k
  induction k with
  | zero =>
    intro f x hf hx hx2
    obtain ⟨f, rfl⟩ : ∃ g, f = g + 1 := ⟨f - 1, by omega⟩
    rw [mX5_sibling_4, dwn]
    simp (disch := omega) only [iI_zero, iI_len, iI_le, iI_lt, iI_eq, iI_add, iI_sub, iI_mul, Option.bind_some]
    rw [if_pos (by omega), if_pos (by omega), if_neg (by omega)]
  | succ k ih =>
    intro f x hf hx hx2
    obtain ⟨f, rfl⟩ : ∃ g, f = g + 1 := ⟨f - 1, by omega⟩
    have b := T.1.bd x
    have ih := ih f (x - 1) (by omega) (by omega) (by omega)
    rw [mX5_sibling_4]
    simp (disch := omega) only [iI_zero, iI_len, iI_le, iI_lt, iI_eq, iI_add, iI_sub, iI_mul, Option.bind_some, gdi, dAt T]
    rw [if_neg (by omega)]
    by_cases c : F x ≤ F v
    · rw [if_pos c, dwn_yes (by simpa using c), if_neg (by omega)]
      by_cases g : F x = F v
      · rw [if_pos g, if_pos ⟨by omega, g⟩]
      · rw [if_neg g, if_neg (fun q => g q.2)]
    · rw [if_neg c, dwn_no (by simpa using c), show x + -1 = x - 1 by omega]
      exact ih
theorem siblingOf (T : TR N F G (iI N) d lb) (v : Int) (h : 0 ≤ v) (h2 : v < N) : mX5_sibling d (iI v) = some (iI (Sb F v)) := by
  have hN := T.1.nn
  unfold mX5_sibling
  simp (disch := omega) only [iI_zero, iI_len, iI_le, iI_lt, iI_eq, iI_add, iI_sub, iI_mul, Option.bind_some]
  rw [sibling_4 T v h h2 v.toNat _ (v - 1) (by rw [FU_big]; omega) (by omega) (by omega)]
  unfold Sb Lo
  rw [show (v - 1 + 1).toNat = v.toNat by omega]
theorem placeOf_8 (T : TR N F G (iI N) d lb) (a : Int32) (e : Int) : ∀ (k f : Nat) (s c : Int), s < k → k < f → s < N → (s = -5 ∨ (0 ≤ s ∧ F s = e)) → 0 ≤ c → c + s ≤ 1000 → mX5_placeOf_8 f d a (iI c) (iI s) = some (iI (c + if 0 ≤ s then 1 + Pl F e s.toNat (s - 1) else 0)) := by
  have hN := T.1.nn
  intro k
  induction k with
  | zero =>
    intro f s c hs hf hs2 hs3 hc hc2
    obtain ⟨f, rfl⟩ : ∃ g, f = g + 1 := ⟨f - 1, by omega⟩
    rw [mX5_placeOf_8]
    simp (disch := omega) only [iI_zero, iI_len, iI_le, iI_lt, iI_eq, iI_add, iI_sub, iI_mul, Option.bind_some]
    rw [if_pos (by omega), if_neg (by omega), Int.add_zero]
  | succ k ih =>
    intro f s c hs hf hs2 hs3 hc hc2
    obtain ⟨f, rfl⟩ : ∃ g, f = g + 1 := ⟨f - 1, by omega⟩
    rw [mX5_placeOf_8]
    by_cases g : s < 0
    · simp (disch := omega) only [iI_zero, iI_len, iI_le, iI_lt, iI_eq, iI_add, iI_sub, iI_mul, Option.bind_some]
      rw [if_pos g, if_neg (by omega), Int.add_zero]
    · have g2 : F s = e := by rcases hs3 with q | q <;> omega
      rw [siblingOf T s (by omega) hs2]
      simp (disch := omega) only [iI_zero, iI_len, iI_le, iI_lt, iI_eq, iI_add, iI_sub, iI_mul, Option.bind_some]
      have p := Pl_lo F e s.toNat (s - 1) (by omega)
      have l := Lo_bd F e (s - 1) (by omega)
      have sb : Sb F s = if 0 ≤ Lo F e (s - 1) ∧ F (Lo F e (s - 1)) = e then Lo F e (s - 1) else -5 := by unfold Sb; rw [g2]
      rw [if_neg g, if_pos (by omega : 0 ≤ s), p, sb]
      by_cases q : 0 ≤ Lo F e (s - 1) ∧ F (Lo F e (s - 1)) = e
      · rw [if_pos q, if_pos q, ih f _ (c + 1) (by omega) (by omega) (by omega) (Or.inr q) (by omega) (by omega), if_pos q.1]
        congr 2
        omega
      · rw [if_neg q, if_neg q, ih f _ (c + 1) (by omega) (by omega) (by omega) (Or.inl rfl) (by omega) (by omega), if_neg (by omega), Int.add_zero, Int.add_zero]
theorem mplaceOf (T : TR N F G (iI N) d lb) (v : Int) (h : 0 ≤ v) (h2 : v < N) : mX5_placeOf d (iI v) = some (iI (Pl F (F v) v.toNat (v - 1))) := by
  have hN := T.1.nn
  have p := Pl_lo F (F v) v.toNat (v - 1) (by omega)
  have l := Lo_bd F (F v) (v - 1) (by omega)
  unfold mX5_placeOf
  rw [siblingOf T v h h2, p]
  simp (disch := omega) only [iI_zero, iI_len, iI_le, iI_lt, iI_eq, iI_add, iI_sub, iI_mul, Option.bind_some]
  unfold Sb
  by_cases q : 0 ≤ Lo F (F v) (v - 1) ∧ F (Lo F (F v) (v - 1)) = F v
  · rw [if_pos q, if_pos q, placeOf_8 T _ (F v) 200 _ _ 0 (by omega) (by rw [FU_big]; omega) (by omega) (Or.inr q) (by omega) (by omega), if_pos q.1, Int.zero_add]
  · rw [if_neg q, if_neg q, placeOf_8 T _ (F v) 200 _ _ 0 (by omega) (by rw [FU_big]; omega) (by omega) (Or.inl rfl) (by omega) (by omega), if_neg (by omega)]
    rfl
theorem misLeafOf (T : TR N F G (iI N) d lb) (v : Int) (h : 0 ≤ v) (h2 : v < N) : mX5_isLeaf (iI N) d (iI v) = some (iI (if Lf F v = true then 1 else 0)) := by
  have hN := T.1.nn
  have b := T.1.bd v
  have b1 := T.1.bd (v + 1)
  unfold mX5_isLeaf
  by_cases c : v + 1 = N
  · simp (disch := omega) only [iI_zero, iI_len, iI_le, iI_lt, iI_eq, iI_add, iI_sub, iI_mul, Option.bind_some]
    have o := T.1.out (v + 1) (by omega)
    rw [if_pos c, if_pos (by simp [Lf]; omega)]
  · simp (disch := omega) only [iI_zero, iI_len, iI_le, iI_lt, iI_eq, iI_add, iI_sub, iI_mul, Option.bind_some, gdi, dAt T]
    rw [if_neg c]
    by_cases g : F v < F (v + 1)
    · rw [if_pos g, if_neg (by simpa [Lf] using g)]
    · rw [if_neg g, if_pos (by simpa [Lf] using g)]
theorem nextDepthOf (T : TR N F G (iI N) d lb) (v : Int) (h : 0 ≤ v) (h2 : v < N) : mX5_nextDepth (iI N) d (iI v) = some (iI (F (v + 1))) := by
  have hN := T.1.nn
  unfold mX5_nextDepth
  by_cases c : N ≤ v + 1
  · simp (disch := omega) only [iI_zero, iI_len, iI_le, iI_lt, iI_eq, iI_add, iI_sub, iI_mul, Option.bind_some]
    rw [if_pos c, T.1.out (v + 1) (by omega)]
  · simp (disch := omega) only [iI_zero, iI_len, iI_le, iI_lt, iI_eq, iI_add, iI_sub, iI_mul, Option.bind_some, gdi, dAt T]
    rw [if_neg c]
theorem leaves_4 (T : TR N F G (iI N) d lb) (v : Int) (hv : 0 ≤ v) (hv2 : v < N) : ∀ (k f : Nat) (c x : Int), k < f → 0 ≤ x → x + k = En F N v → 0 ≤ c → c + k ≤ 1000 → mX5_leaves_4 f (iI N) d (iI v) (iI c) (iI x) = some (iI (c + cnt (Lf F) k x)) := by
  have hN := T.1.nn
  have ev := T.1.en v hv hv2
  intro k
  induction k with
  | zero =>
    intro f c x hf h0 hx hc hc2
    obtain ⟨f, rfl⟩ : ∃ g, f = g + 1 := ⟨f - 1, by omega⟩
    rw [mX5_leaves_4, cnt, behindOf T v hv hv2]
    simp (disch := omega) only [iI_zero, iI_len, iI_le, iI_lt, iI_eq, iI_add, iI_sub, iI_mul, Option.bind_some]
    rw [if_pos (by omega), Int.add_zero]
  | succ k ih =>
    intro f c x hf h0 hx hc hc2
    obtain ⟨f, rfl⟩ : ∃ g, f = g + 1 := ⟨f - 1, by omega⟩
    rw [mX5_leaves_4, behindOf T v hv hv2, misLeafOf T x h0 (by omega)]
    by_cases g : Lf F x = true
    · rw [if_pos g, cnt_yes g]
      simp (disch := omega) only [iI_zero, iI_len, iI_le, iI_lt, iI_eq, iI_add, iI_sub, iI_mul, Option.bind_some]
      rw [if_neg (by omega), if_neg (by omega), ih f (c + 1) (x + 1) (by omega) (by omega) (by omega) (by omega) (by omega), ← Int.add_assoc]
    · rw [if_neg g, cnt_no g]
      simp (disch := omega) only [iI_zero, iI_len, iI_le, iI_lt, iI_eq, iI_add, iI_sub, iI_mul, Option.bind_some]
      rw [if_neg (by omega), if_pos trivial, Int.add_zero, ih f c (x + 1) (by omega) (by omega) (by omega) (by omega) (by omega)]
theorem leavesOf (T : TR N F G (iI N) d lb) (v : Int) (h : 0 ≤ v) (h2 : v < N) : mX5_leaves (iI N) d (iI v) = some (iI (cnt (Lf F) (En F N v - v).toNat v)) := by
  have hN := T.1.nn
  have e := T.1.en v h h2
  unfold mX5_leaves
  rw [leaves_4 T v h h2 (En F N v - v).toNat _ 0 v (by rw [FU_big]; omega) (by omega) (by omega) (by omega) (by omega), Int.zero_add]
theorem mopeningOf (T : TR N F G (iI N) d lb) (v : Int) (h : 0 ≤ v) (h2 : v < N) : mX5_opening d (iI v) = some (iI (2 * v - F v)) := by
  have hN := T.1.nn
  unfold mX5_opening
  simp (disch := omega) only [iI_zero, iI_len, iI_le, iI_lt, iI_eq, iI_add, iI_sub, iI_mul, Option.bind_some, gdi, dAt T]
theorem mclosingOf (T : TR N F G (iI N) d lb) (v : Int) (h : 0 ≤ v) (h2 : v < N) : mX5_closing (iI N) d (iI v) = some (iI (2 * v - F v + 2 * (En F N v - v) - 1)) := by
  unfold mX5_closing
  rw [mopeningOf T v h h2, behindOf T v h h2]
  simp (disch := omega) only [iI_zero, iI_len, iI_le, iI_lt, iI_eq, iI_add, iI_sub, iI_mul, Option.bind_some]
theorem rankOf' (T : TR N F G (iI N) d lb) (v : Int) (h : 0 ≤ v) (h2 : v < N) : mX5_rankOf (iI N) d (iI v) = some (iI (Rk F N v)) := by
  have hN := T.1.nn
  unfold mX5_rankOf Rk
  rw [behindOf T v h h2]
  simp (disch := omega) only [iI_zero, iI_len, iI_le, iI_lt, iI_eq, iI_add, iI_sub, iI_mul, Option.bind_some, gdi, dAt T]
theorem Lc_skip (F : Int → Int) (N v : Int) : ∀ (j k : Nat) (x b m : Int), (∀ y, x ≤ y → y < x + j → F y ≠ F v + 1) → Lc F N v (j + k) x b m = Lc F N v k (x + j) b m
  | 0, k, x, b, m, _ => by rw [Nat.zero_add]; simp
  | j + 1, k, x, b, m, h => by
    rw [show j + 1 + k = (j + k) + 1 by omega, Lc, if_neg (h x (by omega) (by omega)), Lc_skip F N v j k (x + 1) b m (fun y g1 g2 => h y (by omega) (by omega))]
    rw [show x + 1 + (j : Int) = x + ((j + 1 : Nat) : Int) by omega]
theorem heaviest_10 (T : TR N F G (iI N) d lb) (v : Int) (hv : 0 ≤ v) (hv2 : v < N) : ∀ (k f : Nat) (x b m : Int), k < f → v < x → x + k = En F N v → F x ≤ F v + 1 → 0 ≤ m → m ≤ 100 → mX5_heaviest_10 f (iI N) d (iI v) (iI b) (iI m) (iI x) = some (iI (Lc F N v k x b m)) := by
  have hN := T.1.nn
  have ev := T.1.en v hv hv2
  intro k
  induction k using Nat.strongRecOn with
  | ind k ih =>
    intro f x b m hf hvx hx hx3 hm hm2
    obtain ⟨f, rfl⟩ : ∃ g, f = g + 1 := ⟨f - 1, by omega⟩
    by_cases z : k = 0
    · rw [mX5_heaviest_10, behindOf T v hv hv2, z, Lc]
      simp (disch := omega) only [iI_zero, iI_len, iI_le, iI_lt, iI_eq, iI_add, iI_sub, iI_mul, Option.bind_some]
      rw [if_pos (by omega)]
    · have fx := ev.2.2.1 x hvx (by omega)
      have ex := T.1.en x (by omega) (by omega)
      have e2 : En F N x ≤ En F N v := by
        by_cases q : En F N v < En F N x
        · have := ex.2.2.1 (En F N v) (by omega) q
          have := ev.2.2.2
          omega
        · omega
      have s := Lc_skip F N v (En F N x - x - 1).toNat (En F N v - En F N x).toNat (x + 1)
      obtain ⟨j, hj⟩ : ∃ j, j = (En F N x - x - 1).toNat := ⟨_, rfl⟩
      obtain ⟨k2, hk2⟩ : ∃ k2, k2 = (En F N v - En F N x).toNat := ⟨_, rfl⟩
      rw [← hj, ← hk2] at s
      have none' : ∀ y, x + 1 ≤ y → y < x + 1 + j → F y ≠ F v + 1 := fun y g1 g2 => by have := ex.2.2.1 y (by omega) (by omega); omega
      rw [mX5_heaviest_10, behindOf T v hv hv2, behindOf T x (by omega) (by omega), show k = (j + k2) + 1 by omega, Lc, if_pos (by omega : F x = F v + 1), s _ _ none', s _ _ none']
      simp (disch := omega) only [iI_zero, iI_len, iI_le, iI_lt, iI_eq, iI_add, iI_sub, iI_mul, Option.bind_some]
      have r1 := ih k2 (by omega) f (En F N x) b m (by omega) (by omega) (by omega) (by omega) hm hm2
      have r2 := ih k2 (by omega) f (En F N x) x (En F N x - x) (by omega) (by omega) (by omega) (by omega) (by omega) (by omega)
      rw [if_neg (by omega), show x + 1 + (j : Int) = En F N x by omega]
      by_cases c : En F N x - x ≤ m
      · rw [if_pos c, if_pos c, if_pos c]
        exact r1
      · rw [if_neg c, if_neg c, if_neg c]
        exact r2
theorem heaviestOf (T : TR N F G (iI N) d lb) (v : Int) (h : 0 ≤ v) (h2 : v < N) : mX5_heaviest (iI N) d (iI v) = some (iI (Lc F N v (En F N v - v - 1).toNat (v + 1) (-5) 0)) := by
  have hN := T.1.nn
  have e := T.1.en v h h2
  have u := T.1.up v h
  unfold mX5_heaviest
  simp (disch := omega) only [iI_zero, iI_len, iI_le, iI_lt, iI_eq, iI_add, iI_sub, iI_mul, Option.bind_some]
  exact heaviest_10 T v h h2 _ _ _ _ _ (by rw [FU_big]; omega) (by omega) (by omega) u (by omega) (by omega)
theorem levelMateUp (T : TR N F G (iI N) d lb) (v : Int) (hv : 0 ≤ v) (hv2 : v < N) : ∀ (k f : Nat) (x : Int), k < f → 0 ≤ x → x + k = N → mX5_levelMate_4 f (iI N) d (iI v) (iI 1) (iI x) = some (iI (orElse N (fst (fun y => decide (F y = F v)) k x) (-5))) := by
  have hN := T.1.nn
  have bv := T.1.bd v
  intro k
  induction k with
  | zero =>
    intro f x hf h0 hx
    obtain ⟨f, rfl⟩ : ∃ g, f = g + 1 := ⟨f - 1, by omega⟩
    rw [mX5_levelMate_4, fst]
    simp (disch := omega) only [iI_zero, iI_len, iI_le, iI_lt, iI_eq, iI_add, iI_sub, iI_mul, Option.bind_some, inOf]
    rw [if_neg (by omega : ¬ (0 ≤ x ∧ x ≤ N - 1)), if_pos rfl, if_pos rfl, orElse, if_pos (by omega)]
  | succ k ih =>
    intro f x hf h0 hx
    obtain ⟨f, rfl⟩ : ∃ g, f = g + 1 := ⟨f - 1, by omega⟩
    have b := T.1.bd x
    have ih := ih f (x + 1) (by omega) (by omega) (by omega)
    rw [mX5_levelMate_4]
    simp (disch := omega) only [iI_zero, iI_len, iI_le, iI_lt, iI_eq, iI_add, iI_sub, iI_mul, Option.bind_some, inOf, gdi, dAt T]
    rw [if_pos (by omega : 0 ≤ x ∧ x ≤ N - 1), if_neg (by omega)]
    by_cases c : F x = F v
    · rw [if_pos c, fst_yes (by simpa using c), orElse, if_neg (by omega), if_neg (by omega)]
    · rw [if_neg c, fst_no (by simpa using c)]
      exact ih
theorem levelMateDn (T : TR N F G (iI N) d lb) (v : Int) (hv : 0 ≤ v) (hv2 : v < N) : ∀ (k f : Nat) (x : Int), k < f → x + 1 = k → x < N → mX5_levelMate_4 f (iI N) d (iI v) (iI (-1)) (iI x) = some (iI (if dwn (fun y => decide (F y = F v)) k x < 0 then -5 else dwn (fun y => decide (F y = F v)) k x)) := by
  have hN := T.1.nn
  have bv := T.1.bd v
  intro k
  induction k with
  | zero =>
    intro f x hf hx hx2
    obtain ⟨f, rfl⟩ : ∃ g, f = g + 1 := ⟨f - 1, by omega⟩
    rw [mX5_levelMate_4, dwn]
    simp (disch := omega) only [iI_zero, iI_len, iI_le, iI_lt, iI_eq, iI_add, iI_sub, iI_mul, Option.bind_some, inOf]
    rw [if_neg (by omega : ¬ (0 ≤ x ∧ x ≤ N - 1)), if_pos rfl, if_pos rfl, if_pos (by omega)]
  | succ k ih =>
    intro f x hf hx hx2
    obtain ⟨f, rfl⟩ : ∃ g, f = g + 1 := ⟨f - 1, by omega⟩
    have b := T.1.bd x
    have ih := ih f (x - 1) (by omega) (by omega) (by omega)
    rw [mX5_levelMate_4]
    simp (disch := omega) only [iI_zero, iI_len, iI_le, iI_lt, iI_eq, iI_add, iI_sub, iI_mul, Option.bind_some, inOf, gdi, dAt T]
    rw [if_pos (by omega : 0 ≤ x ∧ x ≤ N - 1), if_neg (by omega)]
    by_cases c : F x = F v
    · rw [if_pos c, dwn_yes (by simpa using c), if_neg (by omega), if_neg (by omega)]
    · rw [if_neg c, dwn_no (by simpa using c), show x + -1 = x - 1 by omega]
      exact ih
theorem levelMateUpOf (T : TR N F G (iI N) d lb) (v : Int) (h : 0 ≤ v) (h2 : v < N) : mX5_levelMate (iI N) d (iI v) (iI 1) = some (iI (orElse N (fst (fun y => decide (F y = F v)) (N - v - 1).toNat (v + 1)) (-5))) := by
  have hN := T.1.nn
  unfold mX5_levelMate
  simp (disch := omega) only [iI_zero, iI_len, iI_le, iI_lt, iI_eq, iI_add, iI_sub, iI_mul, Option.bind_some]
  exact levelMateUp T v h h2 _ _ _ (by rw [FU_big]; omega) (by omega) (by omega)
theorem levelMateDnOf (T : TR N F G (iI N) d lb) (v : Int) (h : 0 ≤ v) (h2 : v < N) : mX5_levelMate (iI N) d (iI v) (iI (-1)) = some (iI (if Up F (v - 1) (F v) < 0 then -5 else Up F (v - 1) (F v))) := by
  have hN := T.1.nn
  unfold mX5_levelMate
  simp (disch := omega) only [iI_zero, iI_len, iI_le, iI_lt, iI_eq, iI_add, iI_sub, iI_mul, Option.bind_some]
  rw [levelMateDn T v h h2 v.toNat _ (v + -1) (by rw [FU_big]; omega) (by omega) (by omega)]
  unfold Up
  rw [show v + -1 = v - 1 by omega, show (v - 1 + 1).toNat = v.toNat by omega]
theorem leafBehind_4 (T : TR N F G (iI N) d lb) (a : Int32) : ∀ (k f : Nat) (x : Int), k < f → 0 ≤ x → x + k = N → mX5_leafBehind_4 f (iI N) d a (iI x) = some (iI (orElse N (fst (Lf F) k x) (-5))) := by
  have hN := T.1.nn
  intro k
  induction k with
  | zero =>
    intro f x hf h0 hx
    obtain ⟨f, rfl⟩ : ∃ g, f = g + 1 := ⟨f - 1, by omega⟩
    rw [mX5_leafBehind_4, fst]
    simp (disch := omega) only [iI_zero, iI_len, iI_le, iI_lt, iI_eq, iI_add, iI_sub, iI_mul, Option.bind_some]
    rw [if_pos (by omega), if_pos (by omega), orElse, if_pos (by omega)]
  | succ k ih =>
    intro f x hf h0 hx
    obtain ⟨f, rfl⟩ : ∃ g, f = g + 1 := ⟨f - 1, by omega⟩
    have ih := ih f (x + 1) (by omega) (by omega) (by omega)
    rw [mX5_leafBehind_4, misLeafOf T x h0 (by omega)]
    by_cases c : Lf F x = true
    · rw [if_pos c, fst_yes c]
      simp (disch := omega) only [iI_zero, iI_len, iI_le, iI_lt, iI_eq, iI_add, iI_sub, iI_mul, Option.bind_some]
      rw [if_neg (by omega), if_neg (by omega), if_neg (by omega), orElse, if_neg (by omega)]
    · rw [if_neg c, fst_no c]
      simp (disch := omega) only [iI_zero, iI_len, iI_le, iI_lt, iI_eq, iI_add, iI_sub, iI_mul, Option.bind_some]
      rw [if_neg (by omega), if_pos trivial]
      exact ih
theorem leafBehindOf (T : TR N F G (iI N) d lb) (v : Int) (h : 0 ≤ v) (h2 : v < N) : mX5_leafBehind (iI N) d (iI v) = some (iI (orElse N (fst (Lf F) (N - v - 1).toNat (v + 1)) (-5))) := by
  have hN := T.1.nn
  unfold mX5_leafBehind
  simp (disch := omega) only [iI_zero, iI_len, iI_le, iI_lt, iI_eq, iI_add, iI_sub, iI_mul, Option.bind_some]
  exact leafBehind_4 T _ _ _ _ (by rw [FU_big]; omega) (by omega) (by omega)
theorem TV.upPa (T : TV N F G) (v e : Int) (h : 0 ≤ v) (h2 : v < N) (h3 : 0 ≤ e) (h4 : e < F v) : Up F v e = Up F (Pa F v) e := by
  have hv : v ≠ 0 := by intro q; rw [q, T.2.2.1] at h4; omega
  have p := T.paSpec v (by omega) h2
  have u := T.upSpec (Pa F v) e p.1 (by omega) h3 (by omega)
  exact T.upEq v e _ u.1 (by omega) u.2.2.1 (fun y g1 g2 => by
    by_cases q : y ≤ Pa F v
    · have := u.2.2.2 y q g2; omega
    · have := p.2.2.2 y g1 (by omega); omega)
theorem TV.upSelf (T : TV N F G) (v : Int) (h : 0 ≤ v) : Up F v (F v) = v := T.upEq v (F v) v h (Int.le_refl _) rfl (fun y g1 g2 => absurd g2 (by omega))
theorem upTo_2 (T : TR N F G (iI N) d lb) (a : Int32) (e : Int) (he : 0 ≤ e) : ∀ (k f : Nat) (x : Int), x < k → k < f → 0 ≤ x → x < N → e ≤ F x → mX5_upTo_2 f d a (iI e) (iI x) = some (iI (Up F x e)) := by
  have hN := T.1.nn
  intro k
  induction k with
  | zero =>
    intro f x hx hf h0 hx2 hx3
    exact absurd hx (by omega)
  | succ k ih =>
    intro f x hx hf h0 hx2 hx3
    obtain ⟨f, rfl⟩ : ∃ g, f = g + 1 := ⟨f - 1, by omega⟩
    have b := T.1.bd x
    rw [mX5_upTo_2, mparentOf T x h0 hx2]
    simp (disch := omega) only [iI_zero, iI_len, iI_le, iI_lt, iI_eq, iI_add, iI_sub, iI_mul, Option.bind_some, gdi, dAt T]
    by_cases c : F x ≤ e
    · have e1 : e = F x := by omega
      rw [if_pos c, e1, T.1.upSelf x h0]
    · have hv : x ≠ 0 := by intro q; rw [q, T.1.2.2.1] at c; omega
      have p := T.1.paSpec x (by omega) hx2
      rw [if_neg c, T.1.upPa x e h0 hx2 he (by omega)]
      exact ih f (Pa F x) (by omega) (by omega) p.1 (by omega) (by omega)
theorem upToOf (T : TR N F G (iI N) d lb) (v e : Int) (h : 0 ≤ v) (h2 : v < N) (he : 0 ≤ e) (he2 : e ≤ F v) : mX5_upTo d (iI v) (iI e) = some (iI (Up F v e)) := by
  have hN := T.1.nn
  unfold mX5_upTo
  exact upTo_2 T _ e he 200 _ v (by omega) (by rw [FU_big]; omega) h h2 he2
theorem holdsOf (T : TR N F G (iI N) d lb) (v w : Int) (h : 0 ≤ v) (h2 : v < N) (h3 : 0 ≤ w) (h4 : w < N) : mX5_holds (iI N) d (iI v) (iI w) = some (iI (if v ≤ w ∧ w < En F N v then 1 else 0)) := by
  have hN := T.1.nn
  have e := T.1.en v h h2
  unfold mX5_holds
  rw [behindOf T v h h2]
  simp (disch := omega) only [iI_zero, iI_len, iI_le, iI_lt, iI_eq, iI_add, iI_sub, iI_mul, Option.bind_some]
  by_cases c : w < v
  · rw [if_pos c, if_neg (by omega)]
  · rw [if_neg c]
    by_cases g : En F N v ≤ w
    · rw [if_pos g, if_neg (by omega)]
    · rw [if_neg g, if_pos (by omega)]
/-- what is common to two places: it holds both, and what lies between it and v doesn't -/
theorem TV.cm (T : TV N F G) (u z : Int) (h : 0 ≤ u) (h2 : u ≤ z) (h3 : z < N) : 0 ≤ Cm F u z ∧ Cm F u z ≤ u ∧ (∀ y, Cm F u z < y → y ≤ z → F (Cm F u z) < F y) ∧ (∀ x, Cm F u z < x → x ≤ u → ¬ (∀ y, x < y → y ≤ z → F x < F y)) := by
  obtain ⟨m1, m2, m3, m4⟩ := T.mn (z - u).toNat (u + 1) (F u) (by omega) (by omega) (T.bd u).1
  obtain ⟨u1, u2, u3, u4⟩ := T.upSpec u (Mn F (z - u).toNat (u + 1) (F u)) h (by omega) m1 m2
  have e : Cm F u z = Up F u (Mn F (z - u).toNat (u + 1) (F u)) := rfl
  rw [e]
  refine ⟨u1, u2, fun y g1 g2 => ?_, fun x g1 g2 g3 => ?_⟩
  · rw [u3]
    by_cases q : y ≤ u
    · exact u4 y q g1
    · have := m3 y (by omega) (by omega)
      omega
  · have a := u4 x g2 g1
    have b : F x ≤ F u := by
      by_cases q : x = u
      · rw [q]; exact Int.le_refl _
      · have := g3 u (by omega) h2; omega
    rcases m4 with q | ⟨y, q1, q2, q3⟩
    · omega
    · have := g3 y (by omega) (by omega)
      omega
theorem commonOf_2 (T : TR N F G (iI N) d lb) (a : Int32) (v w r : Int) (hv : 0 ≤ v) (hv2 : v < N) (hw : 0 ≤ w) (hw2 : w < N) (hr : r = Cm F (if w < v then w else v) (if v < w then w else v)) : ∀ (k f : Nat) (x : Int), x < k → k < f → r ≤ x → x ≤ v → (∀ y, x < y → y ≤ v → F x < F y) → mX5_commonOf_2 f (iI N) d a (iI w) (iI x) = some (iI r) := by
  have hN := T.1.nn
  have c := T.1.cm (if w < v then w else v) (if v < w then w else v) (by split <;> omega) (by split <;> split <;> omega) (by split <;> omega)
  rw [← hr] at c
  obtain ⟨c1, c2, c3, c4⟩ := c
  intro k
  induction k with
  | zero =>
    intro f x hx hf h0 hx2 hx3
    exact absurd hx (by omega)
  | succ k ih =>
    intro f x hx hf h0 hx2 hx3
    obtain ⟨f, rfl⟩ : ∃ g, f = g + 1 := ⟨f - 1, by omega⟩
    have ex := T.1.en x (by omega) (by omega)
    rw [mX5_commonOf_2, holdsOf T x w (by omega) (by omega) hw hw2, mparentOf T x (by omega) (by omega)]
    by_cases q : x = r
    · have hold : x ≤ w ∧ w < En F N x := by
        constructor
        · rw [q]; revert c2; split <;> omega
        · by_cases g : w < En F N x
          · exact g
          · exfalso
            have g1 := ex.2.2.2
            have g2 := c3 (En F N x) (by omega) (by split <;> omega)
            rw [← q] at g2
            omega
      rw [if_pos hold]
      simp (disch := omega) only [iI_zero, iI_len, iI_le, iI_lt, iI_eq, iI_add, iI_sub, iI_mul, Option.bind_some]
      rw [if_neg (by omega), q]
    · have nohold : ¬ (x ≤ w ∧ w < En F N x) := by
        intro g
        refine c4 x (by omega) (by split <;> omega) (fun y g1 g2 => ?_)
        by_cases t : y ≤ v
        · exact hx3 y g1 t
        · exact ex.2.2.1 y g1 (by revert g2; split <;> omega)
      rw [if_neg nohold]
      simp (disch := omega) only [iI_zero, iI_len, iI_le, iI_lt, iI_eq, iI_add, iI_sub, iI_mul, Option.bind_some]
      have p := T.1.paSpec x (by omega) (by omega)
      have rle : r ≤ Pa F x := by
        by_cases t : r ≤ Pa F x
        · exact t
        · exfalso
          have g1 := p.2.2.2 r (by omega) (by omega)
          have g2 := c3 x (by omega) (by split <;> omega)
          omega
      rw [if_pos trivial]
      refine ih f (Pa F x) (by omega) (by omega) rle (by omega) (fun y g1 g2 => ?_)
      by_cases t : y ≤ x
      · have := p.2.2.2 y t g1; have := p.2.2.1; omega
      · have := hx3 y (by omega) g2; have := p.2.2.1; omega
theorem commonOf' (T : TR N F G (iI N) d lb) (v w : Int) (h : 0 ≤ v) (h2 : v < N) (h3 : 0 ≤ w) (h4 : w < N) : mX5_commonOf (iI N) d (iI v) (iI w) = some (iI (Cm F (if w < v then w else v) (if v < w then w else v))) := by
  have hN := T.1.nn
  have c := T.1.cm (if w < v then w else v) (if v < w then w else v) (by split <;> omega) (by split <;> split <;> omega) (by split <;> omega)
  unfold mX5_commonOf
  exact commonOf_2 T _ v w _ h h2 h3 h4 rfl 200 _ v (by omega) (by rw [FU_big]; omega) (by have := c.2.1; revert this; generalize Cm F (if w < v then w else v) (if v < w then w else v) = r; split <;> omega) (Int.le_refl _) (fun y g1 g2 => absurd g2 (by omega))
end MREAD
