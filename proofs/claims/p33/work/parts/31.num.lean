/-! 31 (out of whole's 11) -/
/-! 11: whole numbers as Int32 (iI); searches over places of the preorder (fst up, dwn down, cnt, kth); trees by depths -/
theorem iI_self (x : Int32) : iI x.toInt = x := Int32.ofInt_toInt x
theorem iI_toInt {z : Int} (h1 : -2147483648 ≤ z) (h2 : z < 2147483648) : (iI z).toInt = z := Int32.toInt_ofInt_of_le h1 h2
theorem iI_all (x : Int32) : ∃ z : Int, x = iI z ∧ -2147483648 ≤ z ∧ z < 2147483648 := ⟨x.toInt, (iI_self x).symm, Int32.le_toInt x, Int32.toInt_lt x⟩
theorem iI_add (a b : Int) : iI a + iI b = iI (a + b) := (Int32.ofInt_add a b).symm
theorem iI_sub (a b : Int) : iI a - iI b = iI (a - b) := (Int32.ofInt_sub a b).symm
theorem iI_mul (a b : Int) : iI a * iI b = iI (a * b) := (Int32.ofInt_mul a b).symm
theorem iI_zero : (0 : Int32) = iI 0 := rfl
theorem iI_lt {a b : Int} (h1 : -2147483648 ≤ a) (h2 : a < 2147483648) (h3 : -2147483648 ≤ b) (h4 : b < 2147483648) : (iI a < iI b) = (a < b) := by
  rw [Int32.lt_iff_toInt_lt, iI_toInt h1 h2, iI_toInt h3 h4]
theorem iI_le {a b : Int} (h1 : -2147483648 ≤ a) (h2 : a < 2147483648) (h3 : -2147483648 ≤ b) (h4 : b < 2147483648) : (iI a ≤ iI b) = (a ≤ b) := by
  rw [Int32.le_iff_toInt_le, iI_toInt h1 h2, iI_toInt h3 h4]
theorem iI_eq {a b : Int} (h1 : -2147483648 ≤ a) (h2 : a < 2147483648) (h3 : -2147483648 ≤ b) (h4 : b < 2147483648) : (iI a = iI b) = (a = b) := by
  rw [← Int32.toInt_inj, iI_toInt h1 h2, iI_toInt h3 h4]
theorem iI_ix {z : Int} (h1 : 0 ≤ z) (h2 : z < 2147483648) : (iI z).toNatClampNeg = z.toNat := by
  show (iI z).toInt.toNat = z.toNat
  rw [iI_toInt (by omega) h2]
theorem iI_inb {z : Int} {n : Nat} (h1 : -2147483648 ≤ z) (h2 : z < 2147483648) : inb (iI z) n = (0 ≤ z ∧ z < n) := by
  apply propext
  show ¬ (iI z < 0 ∨ n ≤ (iI z).toInt.toNat) ↔ _
  rw [iI_zero, iI_lt h1 h2 (by omega) (by omega), iI_toInt h1 h2]
  omega
theorem iI_len (n : Nat) : Int32.ofNat n = iI n := (iI_nat n).symm
/-! searches -/
def fst (p : Int → Bool) : Nat → Int → Int
  | 0, x => x
  | k + 1, x => if p x then x else fst p k (x + 1)
def dwn (p : Int → Bool) : Nat → Int → Int
  | 0, x => x
  | k + 1, x => if p x then x else dwn p k (x - 1)
def cnt (p : Int → Bool) : Nat → Int → Int
  | 0, _ => 0
  | k + 1, x => (if p x then 1 else 0) + cnt p k (x + 1)
def kth (p : Int → Bool) (e : Int) : Nat → Int → Int → Int
  | 0, _, _ => e
  | k + 1, x, j => if p x then (if j = 0 then x else kth p e k (x + 1) (j - 1)) else kth p e k (x + 1) j
theorem fst_yes {p : Int → Bool} {k : Nat} {x : Int} (h : p x = true) : fst p (k + 1) x = x := by rw [fst, if_pos h]
theorem fst_no {p : Int → Bool} {k : Nat} {x : Int} (h : ¬ p x = true) : fst p (k + 1) x = fst p k (x + 1) := by rw [fst, if_neg h]
theorem dwn_yes {p : Int → Bool} {k : Nat} {x : Int} (h : p x = true) : dwn p (k + 1) x = x := by rw [dwn, if_pos h]
theorem dwn_no {p : Int → Bool} {k : Nat} {x : Int} (h : ¬ p x = true) : dwn p (k + 1) x = dwn p k (x - 1) := by rw [dwn, if_neg h]
theorem cnt_yes {p : Int → Bool} {k : Nat} {x : Int} (h : p x = true) : cnt p (k + 1) x = 1 + cnt p k (x + 1) := by rw [cnt, if_pos h]
theorem cnt_no {p : Int → Bool} {k : Nat} {x : Int} (h : ¬ p x = true) : cnt p (k + 1) x = cnt p k (x + 1) := by rw [cnt, if_neg h, Int.zero_add]
theorem kth_here {p : Int → Bool} {e : Int} {k : Nat} {x j : Int} (h : p x = true) (hj : j = 0) : kth p e (k + 1) x j = x := by rw [kth, if_pos h, if_pos hj]
theorem kth_yes {p : Int → Bool} {e : Int} {k : Nat} {x j : Int} (h : p x = true) (hj : ¬ j = 0) : kth p e (k + 1) x j = kth p e k (x + 1) (j - 1) := by rw [kth, if_pos h, if_neg hj]
theorem kth_no {p : Int → Bool} {e : Int} {k : Nat} {x j : Int} (h : ¬ p x = true) : kth p e (k + 1) x j = kth p e k (x + 1) j := by rw [kth, if_neg h]
theorem fst_spec (p : Int → Bool) : ∀ (k : Nat) (x : Int), x ≤ fst p k x ∧ fst p k x ≤ x + k ∧ (∀ y, x ≤ y → y < fst p k x → p y = false) ∧ (fst p k x < x + k → p (fst p k x) = true)
  | 0, x => ⟨Int.le_refl _, by simp [fst], fun y h1 h2 => absurd h2 (by simp [fst]; omega), fun h => absurd h (by simp [fst])⟩
  | k + 1, x => by
    rw [fst]
    by_cases h : p x = true
    · rw [if_pos h]
      exact ⟨Int.le_refl _, by omega, fun y h1 h2 => absurd h2 (by omega), fun _ => h⟩
    · rw [if_neg h]
      obtain ⟨h1, h2, h3, h4⟩ := fst_spec p k (x + 1)
      refine ⟨by omega, by omega, fun y g1 g2 => ?_, fun g => h4 (by omega)⟩
      by_cases e : y = x
      · rw [e]; exact Bool.eq_false_iff.mpr h
      · exact h3 y (by omega) g2
theorem dwn_spec (p : Int → Bool) : ∀ (k : Nat) (x : Int), dwn p k x ≤ x ∧ x - k ≤ dwn p k x ∧ (∀ y, y ≤ x → dwn p k x < y → p y = false) ∧ (x - k < dwn p k x → p (dwn p k x) = true)
  | 0, x => ⟨Int.le_refl _, by simp [dwn], fun y h1 h2 => absurd h2 (by simp [dwn]; omega), fun h => absurd h (by simp [dwn])⟩
  | k + 1, x => by
    rw [dwn]
    by_cases h : p x = true
    · rw [if_pos h]
      exact ⟨Int.le_refl _, by omega, fun y h1 h2 => absurd h2 (by omega), fun _ => h⟩
    · rw [if_neg h]
      obtain ⟨h1, h2, h3, h4⟩ := dwn_spec p k (x - 1)
      refine ⟨by omega, by omega, fun y g1 g2 => ?_, fun g => h4 (by omega)⟩
      by_cases e : y = x
      · rw [e]; exact Bool.eq_false_iff.mpr h
      · exact h3 y (by omega) g2
/-- a search up is told by what it finds -/
theorem fst_eq (p : Int → Bool) (k : Nat) (x r : Int) (h1 : x ≤ r) (h2 : r ≤ x + k) (h3 : ∀ y, x ≤ y → y < r → p y = false) (h4 : r < x + k → p r = true) : fst p k x = r := by
  obtain ⟨g1, g2, g3, g4⟩ := fst_spec p k x
  rcases Int.lt_trichotomy (fst p k x) r with h | h | h
  · have a := g4 (by omega)
    rw [h3 _ g1 h] at a
    cases a
  · exact h
  · have a := h4 (by omega)
    rw [g3 _ h1 h] at a
    cases a
theorem dwn_eq (p : Int → Bool) (k : Nat) (x r : Int) (h1 : r ≤ x) (h2 : x - k ≤ r) (h3 : ∀ y, y ≤ x → r < y → p y = false) (h4 : x - k < r → p r = true) : dwn p k x = r := by
  obtain ⟨g1, g2, g3, g4⟩ := dwn_spec p k x
  rcases Int.lt_trichotomy (dwn p k x) r with h | h | h
  · have a := h4 (by omega)
    rw [g3 _ h1 h] at a
    cases a
  · exact h
  · have a := g4 (by omega)
    rw [h3 _ g1 h] at a
    cases a
theorem cnt_bd (p : Int → Bool) : ∀ (k : Nat) (x : Int), 0 ≤ cnt p k x ∧ cnt p k x ≤ k
  | 0, x => by simp [cnt]
  | k + 1, x => by
    rw [cnt]
    have h := cnt_bd p k (x + 1)
    by_cases c : p x = true
    · rw [if_pos c]; omega
    · rw [if_neg c]; omega
theorem cnt_cong {p q : Int → Bool} : ∀ (k : Nat) (x : Int), (∀ y, x ≤ y → y < x + k → p y = q y) → cnt p k x = cnt q k x
  | 0, _, _ => rfl
  | k + 1, x, h => by
    rw [cnt, cnt, h x (by omega) (by omega), cnt_cong k (x + 1) (fun y h1 h2 => h y (by omega) (by omega))]
theorem kth_bd (p : Int → Bool) (e : Int) : ∀ (k : Nat) (x j : Int), kth p e k x j = e ∨ (x ≤ kth p e k x j ∧ kth p e k x j < x + k ∧ p (kth p e k x j) = true)
  | 0, x, j => Or.inl rfl
  | k + 1, x, j => by
    rw [kth]
    by_cases c : p x = true
    · rw [if_pos c]
      by_cases d : j = 0
      · rw [if_pos d]; exact Or.inr ⟨Int.le_refl _, by omega, c⟩
      · rw [if_neg d]
        rcases kth_bd p e k (x + 1) (j - 1) with h | h
        · exact Or.inl h
        · exact Or.inr ⟨by omega, by omega, h.2.2⟩
    · rw [if_neg c]
      rcases kth_bd p e k (x + 1) j with h | h
      · exact Or.inl h
      · exact Or.inr ⟨by omega, by omega, h.2.2⟩
/-- the j-th is there just where there are more than j -/
theorem kth_cnt (p : Int → Bool) (e : Int) : ∀ (k : Nat) (x j : Int), 0 ≤ j → ((j < cnt p k x → x ≤ kth p e k x j ∧ kth p e k x j < x + k ∧ p (kth p e k x j) = true) ∧ (cnt p k x ≤ j → kth p e k x j = e))
  | 0, x, j, h => ⟨fun g => absurd g (by simp [cnt]; omega), fun _ => rfl⟩
  | k + 1, x, j, h => by
    rw [kth, cnt]
    by_cases c : p x = true
    · rw [if_pos c, if_pos c]
      by_cases d : j = 0
      · rw [if_pos d]
        have := cnt_bd p k (x + 1)
        exact ⟨fun _ => ⟨Int.le_refl _, by omega, c⟩, fun g => absurd g (by omega)⟩
      · rw [if_neg d]
        obtain ⟨h1, h2⟩ := kth_cnt p e k (x + 1) (j - 1) (by omega)
        refine ⟨fun g => ?_, fun g => h2 (by omega)⟩
        have := h1 (by omega)
        exact ⟨by omega, by omega, this.2.2⟩
    · rw [if_neg c, if_neg c]
      obtain ⟨h1, h2⟩ := kth_cnt p e k (x + 1) j h
      refine ⟨fun g => ?_, fun g => h2 (by omega)⟩
      have := h1 (by omega)
      exact ⟨by omega, by omega, this.2.2⟩
/-! trees -/
section TREE
variable {N : Int} {F G : Int → Int}
theorem TV.bdN (T : TV N F G) : ∀ (k : Nat), (k : Int) < N → 0 ≤ F k ∧ F k ≤ k
  | 0, _ => by have := T.2.2.1; simp at *; omega
  | k + 1, h => by
    have a := TV.bdN T k (by omega)
    have b := T.2.2.2.1 ((k + 1 : Nat) : Int) (by omega) h
    rw [show ((k + 1 : Nat) : Int) - 1 = (k : Int) by omega] at b
    omega
theorem TV.bdx (T : TV N F G) (x : Int) : 0 ≤ F x ∧ F x ≤ 99 ∧ (0 ≤ x → F x ≤ x) := by
  by_cases h : x < 0 ∨ N ≤ x
  · have := T.2.2.2.2.1 x h
    omega
  · have a := TV.bdN T x.toNat (by omega)
    rw [show ((x.toNat : Nat) : Int) = x by omega] at a
    have := T.2.1
    omega
theorem TV.bd (T : TV N F G) (x : Int) : 0 ≤ F x ∧ F x ≤ 99 := ⟨(T.bdx x).1, (T.bdx x).2.1⟩
theorem TV.up (T : TV N F G) (x : Int) (h : 0 ≤ x) : F (x + 1) ≤ F x + 1 := by
  by_cases c : N ≤ x + 1
  · have := T.2.2.2.2.1 (x + 1) (Or.inr c)
    have := T.bd x
    omega
  · have := (T.2.2.2.1 (x + 1) (by omega) (by omega)).2
    rw [show x + 1 - 1 = x by omega] at this
    exact this
theorem TV.pos (T : TV N F G) (x : Int) (h : 0 < x) (h2 : x < N) : 1 ≤ F x := (T.2.2.2.1 x h h2).1
theorem TV.out (T : TV N F G) (x : Int) (h : x < 0 ∨ N ≤ x) : F x = 0 := T.2.2.2.2.1 x h
theorem TV.nn (T : TV N F G) : 1 ≤ N ∧ N ≤ 100 := ⟨T.1, T.2.1⟩
theorem TV.lab (T : TV N F G) (x : Int) (h : 0 ≤ x) (h2 : x < N) : 97 ≤ G x ∧ G x ≤ 122 := T.2.2.2.2.2 x h h2
/-- depths climb by one at most -/
theorem TV.climbs (T : TV N F G) : ∀ (k : Nat) (x : Int), 0 ≤ x → F (x + k) ≤ F x + k
  | 0, x, _ => by simp
  | k + 1, x, h => by
    have a := TV.climbs T k x h
    have b := T.up (x + k) (by omega)
    rw [show x + ((k + 1 : Nat) : Int) = x + k + 1 by omega]
    omega
theorem TV.climbs' (T : TV N F G) (x y : Int) (h : 0 ≤ x) (h2 : x ≤ y) : F y ≤ F x + (y - x) := by
  have a := T.climbs (y - x).toNat x h
  rw [show x + ((y - x).toNat : Int) = y by omega] at a
  omega
/-- the end of a subtree -/
def En (F : Int → Int) (N v : Int) : Int := fst (fun y => decide (F y ≤ F v)) (N - v - 1).toNat (v + 1)
theorem TV.en (T : TV N F G) (v : Int) (h : 0 ≤ v) (h2 : v < N) : v < En F N v ∧ En F N v ≤ N ∧ (∀ y, v < y → y < En F N v → F v < F y) ∧ F (En F N v) ≤ F v := by
  obtain ⟨h3, h4, h5, h6⟩ := fst_spec (fun y => decide (F y ≤ F v)) (N - v - 1).toNat (v + 1)
  refine ⟨by unfold En; omega, by unfold En; omega, fun y g1 g2 => ?_, ?_⟩
  · have := h5 y (by omega) g2
    simpa using this
  · by_cases c : En F N v < N
    · have := h6 (by unfold En at c; omega)
      simpa [En] using this
    · rw [T.out _ (Or.inr (by omega))]
      exact (T.bd v).1
theorem TV.enEq (T : TV N F G) (v r : Int) (h : 0 ≤ v) (h2 : v < N) (h3 : v < r) (h4 : r ≤ N) (h5 : ∀ y, v < y → y < r → F v < F y) (h6 : F r ≤ F v) : En F N v = r := by
  obtain ⟨a, b, c, d⟩ := T.en v h h2
  rcases Int.lt_trichotomy (En F N v) r with g | g | g
  · have := h5 _ a g; omega
  · exact g
  · have := c _ h3 g; omega
/-- going down from v, the first place of depth e (e no greater than v's) -/
def Up (F : Int → Int) (v e : Int) : Int := dwn (fun y => decide (F y = e)) (v + 1).toNat v
theorem TV.upSpec (T : TV N F G) (v e : Int) (h : 0 ≤ v) (h2 : v < N) (h3 : 0 ≤ e) (h4 : e ≤ F v) : 0 ≤ Up F v e ∧ Up F v e ≤ v ∧ F (Up F v e) = e ∧ (∀ y, y ≤ v → Up F v e < y → e < F y) := by
  obtain ⟨g1, g2, g3, g4⟩ := dwn_spec (fun y => decide (F y = e)) (v + 1).toNat v
  have key : ∀ k : Nat, ∀ y, y = v - k → Up F v e < y → e < F y := by
    intro k
    induction k with
    | zero =>
      intro y hy hu
      have := g3 y (by omega) hu
      have hne : F y ≠ e := by simpa using this
      rw [show y = v by omega] at hne ⊢
      omega
    | succ k ih =>
      intro y hy hu
      have a := ih (y + 1) (by omega) (by omega)
      have b := g3 y (by omega) hu
      have hne : F y ≠ e := by simpa using b
      have c := T.up y (by unfold Up at hu; omega)
      omega
  have low : 0 ≤ Up F v e := by
    by_cases g : Up F v e < 0
    · have a := key v.toNat 0 (by omega) g
      rw [T.2.2.1] at a
      omega
    · exact Int.not_lt.mp g
  refine ⟨low, g1, ?_, fun y hy hu => key (v - y).toNat y (by omega) hu⟩
  have := g4 (by unfold Up at low; omega)
  simpa [Up] using this
theorem TV.upEq (T : TV N F G) (v e r : Int) (h : 0 ≤ r) (h2 : r ≤ v) (h3 : F r = e) (h4 : ∀ y, y ≤ v → r < y → F y ≠ e) : Up F v e = r :=
  dwn_eq _ _ _ _ h2 (by omega) (fun y g1 g2 => by simpa using h4 y g1 g2) (fun _ => by simpa using h3)
/-- the parent: -5 for the root -/
def Pa (F : Int → Int) (v : Int) : Int := if v = 0 then -5 else Up F v (F v - 1)
theorem TV.paSpec (T : TV N F G) (v : Int) (h : 0 < v) (h2 : v < N) : 0 ≤ Pa F v ∧ Pa F v < v ∧ F (Pa F v) = F v - 1 ∧ (∀ y, y ≤ v → Pa F v < y → F v ≤ F y) := by
  have a := T.pos v h h2
  obtain ⟨b1, b2, b3, b4⟩ := T.upSpec v (F v - 1) (by omega) h2 (by omega) (by omega)
  have e : Pa F v = Up F v (F v - 1) := by unfold Pa; rw [if_neg (by omega)]
  rw [e]
  refine ⟨b1, ?_, b3, fun y g1 g2 => by have := b4 y g1 g2; omega⟩
  rcases Int.lt_or_eq_of_le b2 with g | g
  · exact g
  · rw [g] at b3; omega
end TREE

