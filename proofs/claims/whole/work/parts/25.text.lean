/-! 25: reading the typed text -/
abbrev ltr (c : Int) : Prop := 97 ≤ c ∧ c ≤ 122
def nmA (E : Int → Int) : Nat → Int
  | 0 => 0
  | i + 1 => nmA E i + (if ltr (E i) then 1 else 0)
def dpA (E : Int → Int) : Nat → Int
  | 0 => 0
  | i + 1 => dpA E i + (if E i = 40 then 1 else if E i = 41 then -1 else 0)
def FA (E : Int → Int) : Nat → Int → Int
  | 0, _ => 0
  | i + 1, y => if ltr (E i) ∧ y = nmA E i then dpA E i else FA E i y
def GA (E : Int → Int) : Nat → Int → Int
  | 0, _ => 0
  | i + 1, y => if ltr (E i) ∧ y = nmA E i then E i else GA E i y
def lsA (E : Int → Int) : Nat → Int
  | 0 => 0
  | i + 1 => if ltr (E i) then 1 else if E i = 40 then 2 else 3
def alA (E : Int → Int) (i : Nat) : Prop := (E i = 40 ∧ lsA E i = 1) ∨ (E i = 41 ∧ 0 < dpA E i ∧ lsA E i ≠ 2) ∨ (ltr (E i) ∧ (i = 0 ∨ 0 < dpA E i) ∧ nmA E i < 100)
theorem FA_yes {E : Int → Int} {i : Nat} (l : ltr (E i)) (y : Int) : FA E (i + 1) y = if y = nmA E i then dpA E i else FA E i y := by
  rw [FA]
  by_cases q : y = nmA E i
  · rw [if_pos ⟨l, q⟩, if_pos q]
  · rw [if_neg (fun z => q z.2), if_neg q]
theorem GA_yes {E : Int → Int} {i : Nat} (l : ltr (E i)) (y : Int) : GA E (i + 1) y = if y = nmA E i then E i else GA E i y := by
  rw [GA]
  by_cases q : y = nmA E i
  · rw [if_pos ⟨l, q⟩, if_pos q]
  · rw [if_neg (fun z => q z.2), if_neg q]
theorem FA_no {E : Int → Int} {i : Nat} (l : ¬ ltr (E i)) (y : Int) : FA E (i + 1) y = FA E i y := by
  rw [FA, if_neg (fun q => l q.1)]
theorem GA_no {E : Int → Int} {i : Nat} (l : ¬ ltr (E i)) (y : Int) : GA E (i + 1) y = GA E i y := by
  rw [GA, if_neg (fun q => l q.1)]
section READ
variable {E : Int → Int}
theorem lsA_bd (i : Nat) : 0 ≤ lsA E i ∧ lsA E i ≤ 3 ∧ (lsA E i = 0 ↔ i = 0) := by
  cases i with
  | zero => simp [lsA]
  | succ k =>
    rw [lsA]
    refine ⟨by split <;> (try split) <;> omega, by split <;> (try split) <;> omega, ?_⟩
    constructor
    · intro h; exfalso; revert h; split <;> (try split) <;> omega
    · intro h; exact absurd h (by omega)
/-- what holds as long as all signs were allowed -/
def PI (E : Int → Int) (i : Nat) : Prop := 0 ≤ dpA E i ∧ dpA E i ≤ i ∧ 0 ≤ nmA E i ∧ nmA E i ≤ 100 ∧ (0 < i → 1 ≤ nmA E i ∧ dpA E i ≤ FA E i (nmA E i - 1) + 1) ∧ (lsA E i = 1 → dpA E i = FA E i (nmA E i - 1)) ∧ (lsA E i = 2 → 1 ≤ dpA E i) ∧ (0 < nmA E i → FA E i 0 = 0) ∧ (∀ j, 0 < j → j < nmA E i → 1 ≤ FA E i j ∧ FA E i j ≤ FA E i (j - 1) + 1) ∧ (∀ j, 0 ≤ j → j < nmA E i → ltr (GA E i j)) ∧ (∀ j, j < 0 ∨ nmA E i ≤ j → FA E i j = 0)
theorem PI_all : ∀ (i : Nat), (∀ j, j < i → alA E j) → PI E i
  | 0, _ => by
    refine ⟨Int.le_refl _, Int.le_refl _, Int.le_refl _, by simp [nmA], fun h => absurd h (by omega), fun h => absurd h (by simp [lsA]), fun h => absurd h (by simp [lsA]), fun h => absurd h (by simp [nmA]), fun j h1 h2 => absurd h2 (by simp [nmA]; omega), fun j h1 h2 => absurd h2 (by simp [nmA]; omega), fun j h => rfl⟩
  | i + 1, h => by
    obtain ⟨p1, p2, p3, p4, p5, p6, p7, p8, p9, p10, p11⟩ := PI_all i (fun j hj => h j (by omega))
    have a := h i (by omega)
    have ls := lsA_bd (E := E) i
    unfold PI
    rw [nmA, dpA, lsA]
    rcases a with ⟨c, a2⟩ | ⟨c, a2, a3⟩ | ⟨c, a2, a3⟩
    · have nl : ¬ ltr (E i) := by omega
      have fe := FA_no nl
      have ge := GA_no nl
      have i0 : i ≠ 0 := fun q => by have := ls.2.2.mpr q; omega
      rw [if_neg nl, if_pos c, if_neg nl, if_pos c, Int.add_zero]
      have q6 := p6 a2
      have q5 := p5 (by omega)
      refine ⟨by omega, by omega, p3, p4, fun _ => ⟨q5.1, by rw [fe]; omega⟩, fun q => absurd q (by omega), fun _ => by omega, fun q => by rw [fe]; exact p8 q, fun j h1 h2 => by rw [fe, fe]; exact p9 j h1 h2, fun j h1 h2 => by rw [ge]; exact p10 j h1 h2, fun j hj => by rw [fe]; exact p11 j hj⟩
    · have nl : ¬ ltr (E i) := by omega
      have n4 : ¬ E i = 40 := by omega
      have fe := FA_no nl
      have ge := GA_no nl
      have i0 : i ≠ 0 := fun q => by subst q; simp [dpA] at a2
      rw [if_neg nl, if_neg n4, if_pos c, if_neg nl, if_neg n4, Int.add_zero]
      have q5 := p5 (by omega)
      refine ⟨by omega, by omega, p3, p4, fun _ => ⟨q5.1, by rw [fe]; omega⟩, fun q => absurd q (by omega), fun q => absurd q (by omega), fun q => by rw [fe]; exact p8 q, fun j h1 h2 => by rw [fe, fe]; exact p9 j h1 h2, fun j h1 h2 => by rw [ge]; exact p10 j h1 h2, fun j hj => by rw [fe]; exact p11 j hj⟩
    · have n4 : ¬ E i = 40 := by omega
      have n5 : ¬ E i = 41 := by omega
      have fe := FA_yes c
      have ge := GA_yes c
      rw [if_pos c, if_neg n4, if_neg n5, if_pos c, Int.add_zero]
      have last : FA E (i + 1) (nmA E i + 1 - 1) = dpA E i := by rw [fe, if_pos (by omega)]
      refine ⟨p1, by omega, by omega, by omega, fun _ => ⟨by omega, by rw [last]; omega⟩, fun _ => last.symm, fun q => absurd q (by omega), fun _ => ?_, fun j h1 h2 => ?_, fun j h1 h2 => ?_, fun j hj => ?_⟩
      · rw [fe]
        by_cases q : 0 = nmA E i
        · rw [if_pos q]
          by_cases z : i = 0
          · subst z; rfl
          · have := p5 (by omega); omega
        · rw [if_neg q]; exact p8 (by omega)
      · rw [fe, fe]
        by_cases q : j = nmA E i
        · have i0 : i ≠ 0 := fun z => by subst z; simp [nmA] at q; omega
          have q5 := p5 (by omega)
          rw [if_pos q, if_neg (by omega), q]
          omega
        · rw [if_neg q, if_neg (by omega)]
          exact p9 j h1 (by omega)
      · rw [ge]
        by_cases q : j = nmA E i
        · rw [if_pos q]; exact c
        · rw [if_neg q]; exact p10 j h1 (by omega)
      · rw [fe, if_neg (by omega)]
        exact p11 j (by omega)
theorem PI_tv (i : Nat) (h : PI E i) (h0 : 0 < i) : TV (nmA E i) (FA E i) (GA E i) := by
  obtain ⟨p1, p2, p3, p4, p5, p6, p7, p8, p9, p10, p11⟩ := h
  have := p5 h0
  exact ⟨this.1, p4, p8 (by omega), p9, p11, p10⟩
/-! the reference's step -/
theorem read_step (f : Nat) (n : Int32) (d lb : Nat → Int32) (kp : Int32) (kr tx rd rl : Nat → Int32) (t i nm dp ls c : Int) (hc : tx i.toNat = iI c) (hi : 0 ≤ i) (hi2 : i < t) (ht : t ≤ 300) (hn : 0 ≤ nm) (hn2 : nm ≤ 100) (hd : 0 ≤ dp) (hd2 : dp ≤ 300) (hl : 0 ≤ ls) (hl2 : ls ≤ 3) (hc0 : 0 ≤ c) (hc2 : c < 65536) :
    mX5_read_9 (f + 1) n d lb kp kr (iI t) tx rd rl (iI nm) (iI dp) (iI ls) (iI i) =
      if (ltr c ∧ nm < 100 ∧ (ls = 0 ∨ ls = 2 ∨ 0 < dp)) then mX5_read_9 f n d lb kp kr (iI t) tx (upd rd nm.toNat (iI dp)) (upd rl nm.toNat (iI c)) (iI (nm + 1)) (iI dp) (iI 1) (iI (i + 1))
      else if (c = 40 ∧ ls = 1) then mX5_read_9 f n d lb kp kr (iI t) tx rd rl (iI nm) (iI (dp + 1)) (iI 2) (iI (i + 1))
      else if (c = 41 ∧ 0 < dp ∧ ls ≠ 2) then mX5_read_9 f n d lb kp kr (iI t) tx rd rl (iI nm) (iI (dp - 1)) (iI 3) (iI (i + 1))
      else some (iI (-100 - i), n, d, lb, kp, kr, rd, rl) := by
  have c3 : ∀ (rec : _) (x6 x7 y0 : Int32), mX5_read_101 rec n d lb kp kr (iI t) tx rd rl (iI nm) (iI dp) (iI ls) (iI i) (iI c) x6 x7 y0 = (if x6 = 0 then (if x7 = 0 then (if y0 = 0 then some (iI (-100 - i), n, d, lb, kp, kr, rd, rl) else rec n d lb kp kr (iI t) tx rd rl (iI nm) (iI (dp - 1)) (iI 3) (iI (i + 1))) else rec n d lb kp kr (iI t) tx rd rl (iI nm) (iI (dp + 1)) (iI 2) (iI (i + 1))) else (if inb (iI nm) 100 then (if inb (iI nm) 100 then rec n d lb kp kr (iI t) tx (upd rd (iI nm).toNatClampNeg (iI dp)) (upd rl (iI nm).toNatClampNeg (iI c)) (iI (nm + 1)) (iI dp) (iI 1) (iI (i + 1)) else none) else none)) := by
    intro rec x6 x7 y0
    unfold mX5_read_101 mX5_read_163
    rw [iI_sub, iI_add, iI_add, iI_add, iI_add, narC hc0 hc2, show dp - 1 = dp + -1 from Int.sub_eq_add_neg]
  have c2 : ∀ (rec : _) (x6 x7 : Int32), mX5_read_78 rec n d lb kp kr (iI t) tx rd rl (iI nm) (iI dp) (iI ls) (iI i) (iI c) x6 x7 = mX5_read_101 rec n d lb kp kr (iI t) tx rd rl (iI nm) (iI dp) (iI ls) (iI i) (iI c) x6 x7 (iI (if c = 41 ∧ 0 < dp ∧ ls ≠ 2 then 1 else 0)) := by
    intro rec x6 x7
    unfold mX5_read_78
    by_cases q : c = 41
    · rw [if_pos (by rw [q])]
      by_cases w : dp ≤ 0
      · rw [if_pos (by rw [iI_zero, iI_le (by omega) (by omega) (by omega) (by omega)]; exact w), if_neg (by omega)]
      · rw [if_neg (by rw [iI_zero, iI_le (by omega) (by omega) (by omega) (by omega)]; exact w)]
        by_cases z : ls = 2
        · rw [if_pos (by rw [z]), if_neg (by omega)]
        · rw [if_neg (by rw [iI_eq (by omega) (by omega) (by omega) (by omega)]; exact z), if_pos (by omega)]
    · rw [if_neg (by rw [iI_eq (by omega) (by omega) (by omega) (by omega)]; exact q), if_neg (by omega)]
  have c1 : ∀ (rec : _) (x6 : Int32), mX5_read_59 rec n d lb kp kr (iI t) tx rd rl (iI nm) (iI dp) (iI ls) (iI i) (iI c) x6 = mX5_read_78 rec n d lb kp kr (iI t) tx rd rl (iI nm) (iI dp) (iI ls) (iI i) (iI c) x6 (iI (if c = 40 ∧ ls = 1 then 1 else 0)) := by
    intro rec x6
    unfold mX5_read_59
    by_cases q : c = 40
    · rw [if_pos (by rw [q])]
      by_cases z : ls = 1
      · rw [if_pos (by rw [z]), if_pos (by omega)]
      · rw [if_neg (by rw [iI_eq (by omega) (by omega) (by omega) (by omega)]; exact z), if_neg (by omega)]
    · rw [if_neg (by rw [iI_eq (by omega) (by omega) (by omega) (by omega)]; exact q), if_neg (by omega)]
  have c0 : mX5_read_9 (f + 1) n d lb kp kr (iI t) tx rd rl (iI nm) (iI dp) (iI ls) (iI i) = mX5_read_59 (mX5_read_9 f) n d lb kp kr (iI t) tx rd rl (iI nm) (iI dp) (iI ls) (iI i) (iI c) (iI (if (ltr c ∧ nm < 100 ∧ (ls = 0 ∨ ls = 2 ∨ 0 < dp)) then 1 else 0)) := by
    rw [mX5_read_9, if_neg (by rw [iI_le (by omega) (by omega) (by omega) (by omega)]; omega), gdi hi (by omega) (by omega), iI_ix hi (by omega), hc, show mX5_isLetter (iI c) = mX4_isLetter (iI c) from rfl, letterOf c (by omega) (by omega)]
    by_cases q : ltr c
    · rw [if_pos q, if_neg e10]
      by_cases w : 100 ≤ nm
      · rw [if_pos (by rw [iI_le (by omega) (by omega) (by omega) (by omega)]; exact w), if_neg (by omega)]
      · rw [if_neg (by rw [iI_le (by omega) (by omega) (by omega) (by omega)]; exact w)]
        by_cases z : ls = 0
        · rw [if_pos (by rw [z]; rfl), if_pos (by omega)]
        · rw [if_neg (by rw [iI_eq0 (by omega) (by omega)]; exact z)]
          by_cases y : ls = 2
          · rw [if_pos (by rw [y]), if_pos (by omega)]
          · rw [if_neg (by rw [iI_eq (by omega) (by omega) (by omega) (by omega)]; exact y)]
            by_cases u : dp ≤ 0
            · rw [if_pos (by rw [iI_zero, iI_le (by omega) (by omega) (by omega) (by omega)]; exact u), if_neg (by omega)]
            · rw [if_neg (by rw [iI_zero, iI_le (by omega) (by omega) (by omega) (by omega)]; exact u), if_pos (by omega)]
    · rw [if_neg q, if_pos e00, if_neg (by omega)]
  rw [c0, c1, c2, c3]
  by_cases q : (ltr c ∧ nm < 100 ∧ (ls = 0 ∨ ls = 2 ∨ 0 < dp))
  · rw [if_pos q, if_neg e10, if_pos q, gdi hn (by omega) (by omega), gdi hn (by omega) (by omega), iI_ix hn (by omega)]
  · rw [if_neg q, if_pos e00, if_neg q]
    by_cases w : c = 40 ∧ ls = 1
    · rw [if_pos w, if_neg e10, if_pos w]
    · rw [if_neg w, if_pos e00, if_neg w]
      by_cases z : c = 41 ∧ 0 < dp ∧ ls ≠ 2
      · rw [if_pos z, if_neg e10, if_pos z]
      · rw [if_neg z, if_pos e00, if_neg z]
/-! the landed code's step -/
theorem deeperOf (ch : Nat → Int32) (i c : Int) (hc : ch i.toNat = iI c) (hi : 0 ≤ i) (hi2 : i < 300) (hc0 : 0 ≤ c) (hc2 : c < 65536) : mX2_deeper ch (iI i) = iI (if c = 40 then 1 else if c = 41 then -1 else 0) := by
  unfold mX2_deeper
  rw [getOf 300 ch i (by omega) hi (by omega), hc]
  by_cases q : c = 40
  · rw [if_pos (by rw [q]), if_pos q]
  · rw [if_neg (by rw [iI_eq (by omega) (by omega) (by omega) (by omega)]; exact q), if_neg q]
    by_cases w : c = 41
    · rw [if_pos (by rw [w]), if_pos w]
    · rw [if_neg (by rw [iI_eq (by omega) (by omega) (by omega) (by omega)]; exact w), if_neg w]
theorem allowedOf (ch : Nat → Int32) (t : Int) (ht : t ≤ 300) (hE : ∀ i, 0 ≤ i → i < t → ch i.toNat = iI (E i) ∧ 0 ≤ E i ∧ E i < 65536) (i : Nat) (hi : (i : Int) < t) (p : PI E i) : ∃ b : Int, mX2_isAllowed ch (iI i) (iI (dpA E i)) (iI (nmA E i)) = some (iI b) ∧ ((b = 1 ∧ alA E i) ∨ (b = 0 ∧ ¬ alA E i)) := by
  obtain ⟨p1, p2, p3, p4, -⟩ := p
  have ec := hE i (by omega) hi
  have gc : mX4_get 300 ch (iI i) = iI (E i) := by rw [getOf 300 ch i (by omega) (by omega) (by omega)]; exact ec.1
  have dp0 : (iI (dpA E i) ≤ 0) = (dpA E i ≤ 0) := by rw [iI_zero, iI_le (by omega) (by omega) (by omega) (by omega)]
  have nm0 : (iI 100 ≤ iI (nmA E i)) = (100 ≤ nmA E i) := iI_le (by omega) (by omega) (by omega) (by omega)
  have k40 : (iI (E i) = iI 40) = (E i = 40) := iI_eq (by omega) (by omega) (by omega) (by omega)
  have k41 : (iI (E i) = iI 41) = (E i = 41) := iI_eq (by omega) (by omega) (by omega) (by omega)
  have let_ := letterOf (E i) (by omega) (by omega)
  unfold mX2_isAllowed
  rw [gc]
  cases i with
  | zero =>
    have l0 : lsA E 0 = 0 := rfl
    have d0 : dpA E 0 = 0 := rfl
    have n0 : nmA E 0 = 0 := rfl
    rw [if_pos (show iI ((0 : Nat) : Int) ≤ 0 by decide)]
    by_cases q : E (0 : Nat) = 40
    · rw [if_pos (by rw [k40]; exact q), if_pos (by decide)]
      refine ⟨0, rfl, Or.inr ⟨rfl, ?_⟩⟩
      unfold alA
      rw [l0, d0, n0]
      omega
    · rw [if_neg (by rw [k40]; exact q)]
      by_cases w : E (0 : Nat) = 41
      · rw [if_pos (by rw [k41]; exact w), if_pos (by rw [dp0, d0]; omega)]
        refine ⟨0, rfl, Or.inr ⟨rfl, ?_⟩⟩
        unfold alA
        rw [l0, d0, n0]
        omega
      · rw [if_neg (by rw [k41]; exact w), let_]
        by_cases l : ltr (E (0 : Nat))
        · rw [if_pos l, if_neg e10, if_pos (show iI ((0 : Nat) : Int) = 0 by decide), if_neg (by rw [nm0, n0]; omega)]
          refine ⟨1, rfl, Or.inl ⟨rfl, ?_⟩⟩
          unfold alA
          rw [n0]
          exact Or.inr (Or.inr ⟨l, Or.inl rfl, by omega⟩)
        · rw [if_neg l, if_pos e00]
          refine ⟨0, rfl, Or.inr ⟨rfl, ?_⟩⟩
          unfold alA
          omega
  | succ k =>
    have eb := hE k (by omega) (by omega)
    have gb : mX4_get 300 ch (iI ((k + 1 : Nat) : Int) - iI 1) = iI (E k) := by
      rw [iI_sub, show ((k + 1 : Nat) : Int) - 1 = (k : Int) by omega, getOf 300 ch k (by omega) (by omega) (by omega)]
      exact eb.1
    have letb := letterOf (E k) (by omega) (by omega)
    have b40 : (iI (E k) = iI 40) = (E k = 40) := iI_eq (by omega) (by omega) (by omega) (by omega)
    have ls : lsA E (k + 1) = if ltr (E k) then 1 else if E k = 40 then 2 else 3 := rfl
    rw [if_neg (show ¬ iI ((k + 1 : Nat) : Int) ≤ 0 by rw [iI_zero, iI_le (by omega) (by omega) (by omega) (by omega)]; omega), gb]
    by_cases q : E ((k + 1 : Nat) : Int) = 40
    · rw [if_pos (by rw [k40]; exact q), letb]
      by_cases l : ltr (E k)
      · rw [if_pos l] at ls ⊢
        rw [if_pos (Or.inr rfl)]
        exact ⟨1, rfl, Or.inl ⟨rfl, Or.inl ⟨q, ls⟩⟩⟩
      · rw [if_neg l] at ls ⊢
        rw [if_pos (Or.inl rfl)]
        refine ⟨0, rfl, Or.inr ⟨rfl, ?_⟩⟩
        have : lsA E (k + 1) ≠ 1 := by rw [ls]; split <;> omega
        unfold alA
        omega
    · rw [if_neg (by rw [k40]; exact q)]
      by_cases w : E ((k + 1 : Nat) : Int) = 41
      · rw [if_pos (by rw [k41]; exact w)]
        by_cases z : dpA E (k + 1) ≤ 0
        · rw [if_pos (by rw [dp0]; exact z)]
          refine ⟨0, rfl, Or.inr ⟨rfl, ?_⟩⟩
          unfold alA
          omega
        · rw [if_neg (by rw [dp0]; exact z)]
          by_cases y : E k = 40
          · rw [if_pos (by rw [b40]; exact y)]
            refine ⟨0, rfl, Or.inr ⟨rfl, ?_⟩⟩
            have : lsA E (k + 1) = 2 := by rw [ls, if_neg (by omega), if_pos y]
            unfold alA
            omega
          · rw [if_neg (by rw [b40]; exact y)]
            refine ⟨1, rfl, Or.inl ⟨rfl, Or.inr (Or.inl ⟨w, by omega, ?_⟩)⟩⟩
            rw [ls]
            split <;> (try split) <;> omega
      · rw [if_neg (by rw [k41]; exact w), let_]
        by_cases l : ltr (E ((k + 1 : Nat) : Int))
        · rw [if_pos l, if_neg e10, if_neg (show ¬ iI ((k + 1 : Nat) : Int) = 0 by rw [iI_eq0 (by omega) (by omega)]; omega)]
          by_cases z : dpA E (k + 1) ≤ 0
          · rw [if_pos (by rw [dp0]; exact z)]
            refine ⟨0, rfl, Or.inr ⟨rfl, ?_⟩⟩
            unfold alA
            omega
          · rw [if_neg (by rw [dp0]; exact z)]
            by_cases y : 100 ≤ nmA E (k + 1)
            · rw [if_pos (by rw [nm0]; exact y)]
              refine ⟨0, rfl, Or.inr ⟨rfl, ?_⟩⟩
              unfold alA
              omega
            · rw [if_neg (by rw [nm0]; exact y)]
              exact ⟨1, rfl, Or.inl ⟨rfl, Or.inr (Or.inr ⟨l, by omega, by omega⟩)⟩⟩
        · rw [if_neg l, if_pos e00]
          refine ⟨0, rfl, Or.inr ⟨rfl, ?_⟩⟩
          unfold alA
          omega
/-- both go through the text alike -/
theorem read_both (ch tx : Nat → Int32) (n : Int32) (d lb : Nat → Int32) (kp : Int32) (kr : Nat → Int32) (t : Nat) (ht : t ≤ 300) (hE : ∀ i, 0 ≤ i → i < (t : Int) → ch i.toNat = iI (E i) ∧ tx i.toNat = iI (E i) ∧ 0 ≤ E i ∧ E i < 65536) : ∀ (k f i : Nat) (rd rl : Nat → Int32), k < f → i + k = t → (∀ j, j < i → alA E j) → (∀ y, 0 ≤ y → y < nmA E i → rd y.toNat = iI (FA E i y) ∧ rl y.toNat = iI (GA E i y)) →
    ∃ (r : Int) (rd' rl' : Nat → Int32), mX2_findFault_6 f (iI t) ch (iI (dpA E i)) (iI (nmA E i)) (iI i) = some (iI r) ∧ -1 ≤ r ∧ r ≤ 300 ∧
      ((0 ≤ r ∧ mX5_read_9 f n d lb kp kr (iI t) tx rd rl (iI (nmA E i)) (iI (dpA E i)) (iI (lsA E i)) (iI i) = some (iI (-100 - r), n, d, lb, kp, kr, rd', rl')) ∨
       (r = -1 ∧ (∀ j, j < t → alA E j) ∧ 0 < t ∧ (∀ y, 0 ≤ y → y < nmA E t → rd' y.toNat = iI (FA E t y) ∧ rl' y.toNat = iI (GA E t y)) ∧ mX5_read_9 f n d lb kp kr (iI t) tx rd rl (iI (nmA E i)) (iI (dpA E i)) (iI (lsA E i)) (iI i) = ((mX5_keep n d lb kp kr).bind fun r4 => mX5_read_197 FU (iI (nmA E t)) d lb r4.1 r4.2 (iI t) tx rd' rl' (iI (nmA E t)) (iI (dpA E t)) (iI (lsA E t)) (iI 0)))) := by
  intro k
  induction k with
  | zero =>
    intro f i rd rl hf hi hal hr
    obtain ⟨f, rfl⟩ : ∃ g, f = g + 1 := ⟨f - 1, by omega⟩
    have et : i = t := by omega
    subst et
    obtain ⟨p1, p2, p3, p4, p5, -⟩ := PI_all i hal
    have c0 : iI (i : Int) ≤ iI (i : Int) := by rw [iI_le (by omega) (by omega) (by omega) (by omega)]; omega
    rw [mX2_findFault_6, mX5_read_9, if_pos c0, if_pos c0]
    by_cases z : i = 0
    · subst z
      rw [if_pos (show iI ((0 : Nat) : Int) ≤ 0 by decide), if_pos (show iI (nmA E 0) = 0 by rfl)]
      exact ⟨0, rd, rl, rfl, by omega, by omega, Or.inl ⟨by omega, by rw [iI_sub]; rfl⟩⟩
    · have q5 := p5 (by omega)
      rw [if_neg (show ¬ iI (i : Int) ≤ 0 by rw [iI_zero, iI_le (by omega) (by omega) (by omega) (by omega)]; omega), if_neg (show ¬ iI (nmA E i) = 0 by rw [iI_eq0 (by omega) (by omega)]; omega)]
      by_cases w : dpA E i = 0
      · rw [if_pos (show iI (dpA E i) = 0 by rw [iI_eq0 (by omega) (by omega)]; exact w), if_pos (show iI (dpA E i) ≤ 0 by rw [iI_zero, iI_le (by omega) (by omega) (by omega) (by omega)]; omega)]
        exact ⟨-1, rd, rl, rfl, by omega, by omega, Or.inr ⟨rfl, hal, by omega, hr, rfl⟩⟩
      · rw [if_neg (show ¬ iI (dpA E i) = 0 by rw [iI_eq0 (by omega) (by omega)]; exact w), if_neg (show ¬ iI (dpA E i) ≤ 0 by rw [iI_zero, iI_le (by omega) (by omega) (by omega) (by omega)]; omega)]
        exact ⟨i, rd, rl, rfl, by omega, by omega, Or.inl ⟨by omega, by rw [iI_sub]⟩⟩
  | succ k ih =>
    intro f i rd rl hf hi hal hr
    obtain ⟨f, rfl⟩ : ∃ g, f = g + 1 := ⟨f - 1, by omega⟩
    have p := PI_all i hal
    obtain ⟨b, b1, b2⟩ := allowedOf ch t (by omega) (fun j q1 q2 => ⟨(hE j q1 q2).1, (hE j q1 q2).2.2⟩) i (by omega) p
    obtain ⟨p1, p2, p3, p4, p5, p6, p7, -⟩ := p
    have ec := hE i (by omega) (by omega)
    have ls := lsA_bd (E := E) i
    have dpe := deeperOf ch i (E i) ec.1 (by omega) (by omega) ec.2.2.1 ec.2.2.2
    rw [read_step f n d lb kp kr tx rd rl t i (nmA E i) (dpA E i) (lsA E i) (E i) ec.2.1 (by omega) (by omega) (by omega) p3 p4 p1 (by omega) ls.1 ls.2.1 ec.2.2.1 ec.2.2.2, mX2_findFault_6, if_neg (by rw [iI_le (by omega) (by omega) (by omega) (by omega)]; omega), b1]
    simp only [Option.bind_some]
    rw [getOf 300 ch i (by omega) (by omega) (by omega), ec.1, letterOf (E i) (by omega) (by omega), dpe]
    simp only [iI_add]
    rcases b2 with ⟨rfl, al⟩ | ⟨rfl, al⟩
    · have hal2 : ∀ j, j < i + 1 → alA E j := fun j hj => by
        by_cases q : j = i
        · rw [q]; exact al
        · exact hal j (by omega)
      rw [if_neg e10]
      have dn : dpA E (i + 1) = dpA E i + (if E i = 40 then 1 else if E i = 41 then -1 else 0) := rfl
      have nn : nmA E (i + 1) = nmA E i + (if ltr (E i) then 1 else 0) := rfl
      have ln : lsA E (i + 1) = if ltr (E i) then 1 else if E i = 40 then 2 else 3 := rfl
      rw [← dn]
      by_cases l : ltr (E i)
      · have cond : ltr (E i) ∧ nmA E i < 100 ∧ (lsA E i = 0 ∨ lsA E i = 2 ∨ 0 < dpA E i) := by
          rcases al with ⟨a1, -⟩ | ⟨a1, -⟩ | ⟨-, a2, a3⟩
          · omega
          · omega
          · refine ⟨l, a3, ?_⟩
            rcases a2 with q | q
            · exact Or.inl (ls.2.2.mpr q)
            · exact Or.inr (Or.inr q)
        rw [if_pos l] at nn ln
        rw [if_pos cond, if_pos l, if_neg e10, ← nn]
        have dd : dpA E (i + 1) = dpA E i := by rw [dn, if_neg (by omega), if_neg (by omega), Int.add_zero]
        have r := ih f (i + 1) (upd rd (nmA E i).toNat (iI (dpA E i))) (upd rl (nmA E i).toNat (iI (E i))) (by omega) (by omega) hal2 (fun y y1 y2 => by
          have fe := FA_yes l y
          have ge := GA_yes l y
          rw [fe, ge]
          by_cases q : y = nmA E i
          · rw [if_pos q, if_pos q, upd_in (by rw [q]), upd_in (by rw [q])]
            exact ⟨rfl, rfl⟩
          · rw [if_neg q, if_neg q, upd_ne (by omega), upd_ne (by omega)]
            exact hr y y1 (by omega))
        rw [ln, dd] at r
        rw [dd]
        exact r
      · rw [if_neg l, Int.add_zero] at nn
        rw [if_neg l] at ln
        have hr2 : ∀ y, 0 ≤ y → y < nmA E (i + 1) → rd y.toNat = iI (FA E (i + 1) y) ∧ rl y.toNat = iI (GA E (i + 1) y) := fun y y1 y2 => by
          have fe := FA_no l y
          have ge := GA_no l y
          rw [fe, ge]
          exact hr y y1 (by omega)
        have r := ih f (i + 1) rd rl (by omega) (by omega) hal2 hr2
        rw [if_neg (show ¬ (ltr (E i) ∧ nmA E i < 100 ∧ (lsA E i = 0 ∨ lsA E i = 2 ∨ 0 < dpA E i)) from fun q => l q.1), if_neg l, if_pos e00, Int.add_zero, ← nn]
        rw [nn] at r ⊢
        by_cases o : E i = 40
        · rw [if_pos o] at ln dn
          have l1 : lsA E i = 1 := by
            rcases al with ⟨-, a2⟩ | ⟨a1, -⟩ | ⟨a1, -⟩
            · exact a2
            · omega
            · exact absurd a1 l
          rw [if_pos ⟨o, l1⟩, ← dn]
          rw [ln] at r
          exact r
        · rw [if_neg o] at ln dn
          have cl : E i = 41 ∧ 0 < dpA E i ∧ lsA E i ≠ 2 := by
            rcases al with ⟨a1, -⟩ | a1 | ⟨a1, -⟩
            · exact absurd a1 o
            · exact a1
            · exact absurd a1 l
          rw [if_pos cl.1] at dn
          rw [if_neg (show ¬ (E i = 40 ∧ lsA E i = 1) from fun q => o q.1), if_pos cl, Int.sub_eq_add_neg, ← dn]
          rw [ln] at r
          exact r
    · rw [if_pos e00]
      have n1 : ¬ (ltr (E i) ∧ nmA E i < 100 ∧ (lsA E i = 0 ∨ lsA E i = 2 ∨ 0 < dpA E i)) := fun q => al (Or.inr (Or.inr ⟨q.1, by
        rcases q.2.2 with z | z | z
        · exact Or.inl (ls.2.2.mp z)
        · have := p7 z; exact Or.inr (by omega)
        · exact Or.inr z, q.2.1⟩))
      have n2 : ¬ (E i = 40 ∧ lsA E i = 1) := fun q => al (Or.inl q)
      have n3 : ¬ (E i = 41 ∧ 0 < dpA E i ∧ lsA E i ≠ 2) := fun q => al (Or.inr (Or.inl q))
      rw [if_neg n1, if_neg n2, if_neg n3]
      exact ⟨i, rd, rl, rfl, by omega, by omega, Or.inl ⟨by omega, rfl⟩⟩
theorem makeTree_8 (ch : Nat → Int32) (t : Nat) (ht : t ≤ 300) (hE : ∀ i, 0 ≤ i → i < (t : Int) → ch i.toNat = iI (E i) ∧ 0 ≤ E i ∧ E i < 65536) (hal : ∀ j, j < t → alA E j) : ∀ (k f i : Nat) (d lb : Nat → Int32), k < f → i + k = t → (∀ y, 0 ≤ y → y < nmA E i → d y.toNat = iI (FA E i y) ∧ lb y.toNat = iI (GA E i y)) → ∃ d' lb' : Nat → Int32, mX2_makeTree_8 f (iI (nmA E i)) d lb (iI t) ch (iI (dpA E i)) (iI i) = some (iI (nmA E t), d', lb') ∧ (∀ y, 0 ≤ y → y < nmA E t → d' y.toNat = iI (FA E t y) ∧ lb' y.toNat = iI (GA E t y)) := by
  intro k
  induction k with
  | zero =>
    intro f i d lb hf hi hr
    obtain ⟨f, rfl⟩ : ∃ g, f = g + 1 := ⟨f - 1, by omega⟩
    have et : i = t := by omega
    subst et
    refine ⟨d, lb, ?_, hr⟩
    rw [mX2_makeTree_8, if_pos (by rw [iI_le (by omega) (by omega) (by omega) (by omega)]; omega)]
  | succ k ih =>
    intro f i d lb hf hi hr
    obtain ⟨f, rfl⟩ : ∃ g, f = g + 1 := ⟨f - 1, by omega⟩
    obtain ⟨p1, p2, p3, p4, -⟩ := PI_all i (fun j hj => hal j (by omega))
    have ec := hE i (by omega) (by omega)
    have al := hal i (by omega)
    have dn : dpA E (i + 1) = dpA E i + (if E i = 40 then 1 else if E i = 41 then -1 else 0) := rfl
    have nn : nmA E (i + 1) = nmA E i + (if ltr (E i) then 1 else 0) := rfl
    rw [mX2_makeTree_8, if_neg (by rw [iI_le (by omega) (by omega) (by omega) (by omega)]; omega), getOf 300 ch i (by omega) (by omega) (by omega), ec.1, letterOf (E i) (by omega) (by omega), deeperOf ch i (E i) ec.1 (by omega) (by omega) ec.2.1 ec.2.2]
    simp only [iI_add]
    rw [← dn]
    by_cases l : ltr (E i)
    · have n1 : nmA E i < 100 := by
        rcases al with ⟨a1, -⟩ | ⟨a1, -⟩ | ⟨-, -, a3⟩
        · omega
        · omega
        · exact a3
      rw [if_pos l] at nn
      rw [if_pos l, if_neg e10, appendOf (nmA E i) _ _ p3 n1, ← nn]
      exact ih f (i + 1) _ _ (by omega) (by omega) (fun y y1 y2 => by
        have fe := FA_yes l y
        have ge := GA_yes l y
        rw [fe, ge]
        dsimp only
        by_cases q : y = nmA E i
        · rw [if_pos q, if_pos q, upd_in (by rw [q]), upd_in (by rw [q])]
          exact ⟨rfl, rfl⟩
        · rw [if_neg q, if_neg q, upd_ne (by omega), upd_ne (by omega)]
          exact hr y y1 (by omega))
    · rw [if_neg l, Int.add_zero] at nn
      rw [if_neg l, if_pos e00, ← nn]
      exact ih f (i + 1) d lb (by omega) (by omega) (fun y y1 y2 => by
        have fe := FA_no l y
        have ge := GA_no l y
        rw [fe, ge]
        exact hr y y1 (by omega))
theorem read_197 {N : Int} {F G : Int → Int} (T : TV N F G) (kp : Int32) (kr : Nat → Int32) (ty : Int32) (tx rd rl : Nat → Int32) (x1 x2 x3 : Int32) (hr : ∀ y, 0 ≤ y → y < N → rd y.toNat = iI (F y) ∧ rl y.toNat = iI (G y)) : ∀ (k f : Nat) (x : Int) (d lb : Nat → Int32), k < f → 0 ≤ x → x + k = N → (∀ y, 0 ≤ y → y < x → d y.toNat = iI (F y) ∧ lb y.toNat = iI (G y)) → ∃ d' lb' : Nat → Int32, mX5_read_197 f (iI N) d lb kp kr ty tx rd rl x1 x2 x3 (iI x) = some (iI N, iI N, d', lb', kp, kr, rd, rl) ∧ (∀ y, 0 ≤ y → y < N → d' y.toNat = iI (F y) ∧ lb' y.toNat = iI (G y)) := by
  have hN := T.nn
  intro k
  induction k with
  | zero =>
    intro f x d lb hf h0 hx hd
    obtain ⟨f, rfl⟩ : ∃ g, f = g + 1 := ⟨f - 1, by omega⟩
    refine ⟨d, lb, ?_, fun y h1 h2 => hd y h1 (by omega)⟩
    rw [mX5_read_197, if_pos (by rw [iI_le (by omega) (by omega) (by omega) (by omega)]; omega)]
  | succ k ih =>
    intro f x d lb hf h0 hx hd
    obtain ⟨f, rfl⟩ : ∃ g, f = g + 1 := ⟨f - 1, by omega⟩
    have b := T.lab x h0 (by omega)
    have r := hr x h0 (by omega)
    rw [mX5_read_197, if_neg (by rw [iI_le (by omega) (by omega) (by omega) (by omega)]; omega), gdi h0 (by omega) (by omega), gdi h0 (by omega) (by omega), gdi h0 (by omega) (by omega), gdi h0 (by omega) (by omega), iI_ix h0 (by omega), r.1, r.2, narC (by omega) (by omega), iI_add]
    exact ih f (x + 1) _ _ (by omega) (by omega) (by omega) (fun y y1 y2 => by
      by_cases q : y = x
      · rw [upd_in (by rw [q]), upd_in (by rw [q]), q]; exact ⟨rfl, rfl⟩
      · rw [upd_ne (by omega), upd_ne (by omega)]; exact hd y y1 (by omega))
end READ
theorem st_read {n : Int32} {d : Nat → Int32} {lb : Nat → Int32} {wi : Int32} {sl : Int32} {kp : Int32} {ct : Nat → Int32} {gd : Nat → Int32} {gl : Nat → Int32} {ln : Int32} {ch : Nat → Int32} {mn : Int32} {md : Nat → Int32} {ml : Nat → Int32} {mk : Int32} {mr : Nat → Int32} {mt : Int32} {mx : Nat → Int32} {me : Nat → Int32} {mg : Nat → Int32} {mw : Int32} (I : Inv n d lb wi sl kp ct gd gl ln ch mn md ml mk mr mt mx mw)  : ∃ (RA : Int32 × Int32 × (Nat → Int32) × (Nat → Int32) × Int32 × Int32 × (Nat → Int32) × (Nat → Int32) × (Nat → Int32)) (RM : Int32 × Int32 × (Nat → Int32) × (Nat → Int32) × Int32 × (Nat → Int32) × (Nat → Int32) × (Nat → Int32)), mX4_read n d lb sl kp ct gd gl ln ch = some RA ∧ mX5_read mn md ml mk mr mt mx me mg = some RM ∧ RA.1 = RM.1 ∧ Inv RA.2.1 RA.2.2.1 RA.2.2.2.1 wi RA.2.2.2.2.1 RA.2.2.2.2.2.1 RA.2.2.2.2.2.2.1 RA.2.2.2.2.2.2.2.1 RA.2.2.2.2.2.2.2.2 ln ch RM.2.1 RM.2.2.1 RM.2.2.2.1 RM.2.2.2.2.1 RM.2.2.2.2.2.1 mt mx mw := by
  obtain ⟨N, F, G, T, M⟩ := I.1
  obtain rfl := T.2.1
  obtain rfl := M.2.1
  obtain ⟨t, E, rfl, rfl, ht, ht2, hE⟩ := I.2.2.2
  have et : t = ((t.toNat : Nat) : Int) := by omega
  obtain ⟨RA, RM, r1, r2, r3⟩ := histOf T M I.2.2.1
  obtain ⟨r, rd', rl', a1, a2, a3, a4⟩ := read_both (E := E) ch mx (iI N) md ml mk mr t.toNat (by omega) (fun i q1 q2 => hE i q1 (by omega)) t.toNat FU 0 me mg (by rw [FU_big]; omega) (by omega) (fun j hj => absurd hj (by omega)) (fun y y1 y2 => absurd y2 (by simp [nmA]; omega))
  rw [← et] at a1 a4
  have ff : mX2_findFault (iI t) ch = some (iI r) := a1
  unfold mX4_read mX5_read
  rw [ff]
  simp only [Option.bind_some]
  rcases a4 with ⟨q1, q2⟩ | ⟨q1, q2, q3, q4, q5⟩
  · have mm : mX5_read_9 FU (iI N) md ml mk mr (iI t) mx me mg (iI 0) (iI 0) (iI 0) (iI 0) = some (iI (-100 - r), iI N, md, ml, mk, mr, rd', rl') := q2
    rw [if_neg (show ¬ iI r = iI (-1) by rw [iI_eq (by omega) (by omega) (by omega) (by omega)]; omega), mm, iI_sub]
    exact ⟨_, _, rfl, rfl, rfl, I⟩
  · have pi := PI_all (E := E) t.toNat q2
    have tv := PI_tv t.toNat pi q3
    have hn := tv.nn
    obtain ⟨d1, l1, w1, w2⟩ := makeTree_8 (E := E) ch t.toNat (by omega) (fun i z1 z2 => ⟨(hE i z1 (by omega)).1, (hE i z1 (by omega)).2.2⟩) q2 t.toNat FU 0 d lb (by rw [FU_big]; omega) (by omega) (fun y y1 y2 => absurd y2 (by simp [nmA]; omega))
    obtain ⟨d2, l2, z1, z2⟩ := read_197 tv RM.1 RM.2 (iI t) mx rd' rl' (iI (nmA E t.toNat)) (iI (dpA E t.toNat)) (iI (lsA E t.toNat)) q4 (nmA E t.toNat).toNat FU 0 md ml (by rw [FU_big]; omega) (by omega) (by omega) (fun y y1 y2 => absurd y2 (by omega))
    rw [← et] at w1
    have mt' : mX2_makeTree (iI N) d lb (iI t) ch = some (iI (nmA E t.toNat), d1, l1) := w1
    have mm : mX5_read_9 FU (iI N) md ml mk mr (iI t) mx me mg (iI 0) (iI 0) (iI 0) (iI 0) = some (iI (nmA E t.toNat), iI (nmA E t.toNat), d2, l2, RM.1, RM.2, rd', rl') := by
      have q6 : mX5_read_9 FU (iI N) md ml mk mr (iI t) mx me mg (iI 0) (iI 0) (iI 0) (iI 0) = _ := q5
      rw [q6, r2]
      simp only [Option.bind_some]
      exact z1
    rw [if_pos (by rw [q1]), r1, mt', mm]
    exact ⟨_, _, rfl, rfl, rfl, ⟨_, _, _, ⟨tv, rfl, fun i y1 y2 => (w2 i y1 y2).1, fun i y1 y2 => (w2 i y1 y2).2⟩, ⟨tv, rfl, fun i y1 y2 => (z2 i y1 y2).1, fun i y1 y2 => (z2 i y1 y2).2⟩⟩, I.2.1, r3, I.2.2.2⟩
theorem st_init : Inv (iI 1) (fun _ => 0) (mX4_put 100 (fun _ => 0) (iI 0) (iI 97)) (iI 8) 0 0 (fun _ => 0) (fun _ => 0) (fun _ => 0) 0 (fun _ => 0) (iI 1) (fun _ => 0) (upd (fun _ => 0) ((iI 0)).toNatClampNeg (vp_nar .char (iI 97))) 0 (fun _ => 0) 0 (fun _ => 0) (iI 8) := by
  have tv : TV 1 (fun _ => 0) (fun _ => 97) := ⟨by omega, by omega, rfl, fun i h1 h2 => absurd h2 (by omega), fun i _ => rfl, fun i _ _ => by show (97 : Int) ≤ 97 ∧ (97 : Int) ≤ 122; omega⟩
  have p : mX4_put 100 (fun _ => 0) (iI 0) (iI 97) = upd (fun _ => 0) (0 : Int).toNat (iI 97) := putOf 100 _ 0 _ (by omega) (by omega) (by omega)
  refine ⟨⟨1, fun _ => 0, fun _ => 97, ⟨tv, rfl, fun i h1 h2 => rfl, fun i h1 h2 => ?_⟩, ⟨tv, rfl, fun i h1 h2 => rfl, fun i h1 h2 => ?_⟩⟩, ⟨8, rfl, rfl, by omega, by omega⟩, ⟨0, 0, rfl, rfl, rfl, by omega, by omega, by omega, by omega, fun j h1 h2 => absurd h2 (by omega)⟩, ⟨0, fun _ => 0, rfl, rfl, by omega, by omega, fun i h1 h2 => absurd h2 (by omega)⟩⟩
  · rw [p, upd_in (by omega)]
  · rw [iI_ix (by omega) (by omega), narC (by omega) (by omega), upd_in (by omega)]
