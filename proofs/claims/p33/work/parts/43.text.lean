/-! 43: the typed text: its fault, what it makes; the written text as a row of signs -/
/-- t signs E are typed -/
def TX (t : Int) (E : Int → Int) (ch : Nat → Int32) : Prop := 0 ≤ t ∧ t ≤ 300 ∧ ∀ i, 0 ≤ i → i < t → ch i.toNat = iI (E i) ∧ 0 ≤ E i ∧ E i < 65536
theorem typeOf {t : Int} {E : Int → Int} {ch : Nat → Int32} (h : TX t E ch) (ht : t < 300) (z : Int) (hz : 0 ≤ z) (hz2 : z < 65536) : ∃ ch' : Nat → Int32, mX4_type (iI t) ch (iI z) = (iI (t + 1), iI (t + 1), ch') ∧ ∀ E' : Int → Int, (∀ i, 0 ≤ i → i < t → E' i = E i) → E' t = z → TX (t + 1) E' ch' := by
  obtain ⟨h1, h2, h3⟩ := h
  refine ⟨upd ch t.toNat (iI z), ?_, fun E' e1 e2 => ⟨by omega, by omega, fun i g1 g2 => ?_⟩⟩
  · unfold mX4_type mX2_append
    rw [if_pos (show iI t < iI 300 by rw [iI_lt (by omega) (by omega) (by omega) (by omega)]; exact ht), iI_add, putOf 300 _ t _ (by omega) h1 (by omega)]
  · by_cases q : i = t
    · rw [q, upd_in rfl, e2]; exact ⟨rfl, hz, hz2⟩
    · rw [upd_ne (by omega), e1 i g1 (by omega)]; exact h3 i g1 (by omega)
section FAULT
variable {E : Int → Int}
theorem findFault_6 (ch : Nat → Int32) (t : Nat) (ht : t ≤ 300) (hE : ∀ i, 0 ≤ i → i < (t : Int) → ch i.toNat = iI (E i) ∧ 0 ≤ E i ∧ E i < 65536) : ∀ (k f i : Nat), k < f → i + k = t → (∀ j, j < i → alA E j) → (∀ m : Nat, (∀ j, j < m → alA E j) → m < t → ¬ alA E m → mX2_findFault_6 f (iI t) ch (iI (dpA E i)) (iI (nmA E i)) (iI i) = some (iI m)) ∧ ((∀ j, j < t → alA E j) → mX2_findFault_6 f (iI t) ch (iI (dpA E i)) (iI (nmA E i)) (iI i) = some (iI (if 0 < t ∧ dpA E t = 0 then -1 else t))) := by
  intro k
  induction k with
  | zero =>
    intro f i hf hi hal
    obtain ⟨f, rfl⟩ : ∃ g, f = g + 1 := ⟨f - 1, by omega⟩
    have et : i = t := by omega
    subst et
    obtain ⟨p1, p2, -⟩ := PI_all i hal
    refine ⟨fun m h1 h2 h3 => absurd (hal m h2) h3, fun _ => ?_⟩
    rw [mX2_findFault_6, if_pos (by rw [iI_le (by omega) (by omega) (by omega) (by omega)]; omega)]
    by_cases z : i = 0
    · rw [if_pos (show iI i ≤ 0 by rw [iI_zero, iI_le (by omega) (by omega) (by omega) (by omega)]; omega), if_neg (by omega)]
    · rw [if_neg (show ¬ iI i ≤ 0 by rw [iI_zero, iI_le (by omega) (by omega) (by omega) (by omega)]; omega)]
      by_cases w : dpA E i = 0
      · rw [if_pos (show iI (dpA E i) = 0 by rw [iI_eq0 (by omega) (by omega)]; exact w), if_pos ⟨by omega, w⟩]
      · rw [if_neg (show ¬ iI (dpA E i) = 0 by rw [iI_eq0 (by omega) (by omega)]; exact w), if_neg (fun q => w q.2)]
  | succ k ih =>
    intro f i hf hi hal
    obtain ⟨f, rfl⟩ : ∃ g, f = g + 1 := ⟨f - 1, by omega⟩
    have p := PI_all i hal
    obtain ⟨b, b1, b2⟩ := allowedOf ch t (by omega) hE i (by omega) p
    have ec := hE i (by omega) (by omega)
    have dpe := deeperOf ch i (E i) ec.1 (by omega) (by omega) ec.2.1 ec.2.2
    have st : mX2_findFault_6 (f + 1) (iI t) ch (iI (dpA E i)) (iI (nmA E i)) (iI i) = if b = 0 then some (iI i) else mX2_findFault_6 f (iI t) ch (iI (dpA E (i + 1))) (iI (nmA E (i + 1))) (iI ((i + 1 : Nat) : Int)) := by
      rw [mX2_findFault_6, if_neg (by rw [iI_le (by omega) (by omega) (by omega) (by omega)]; omega), b1]
      simp only [Option.bind_some]
      rw [getOf 300 ch i (by omega) (by omega) (by omega), ec.1, letterOf (E i) (by omega) (by omega), dpe]
      simp only [iI_add]
      rw [show ((i + 1 : Nat) : Int) = (i : Int) + 1 by omega, dpA, nmA]
      rcases b2 with ⟨rfl, al⟩ | ⟨rfl, al⟩
      · rw [if_neg e10]
        by_cases l : ltr (E i)
        · simp only [if_pos l]
          rw [if_neg e10, if_neg (show ¬ (1 : Int) = 0 by omega)]
        · simp only [if_neg l]
          rw [if_pos e00, if_neg (show ¬ (1 : Int) = 0 by omega)]
      · rw [if_pos e00, if_pos rfl]
    rw [st]
    rcases b2 with ⟨rfl, al⟩ | ⟨rfl, al⟩
    · have hal2 : ∀ j, j < i + 1 → alA E j := fun j hj => by
        by_cases q : j = i
        · rw [q]; exact al
        · exact hal j (by omega)
      rw [if_neg (by omega)]
      exact ih f (i + 1) (by omega) (by omega) hal2
    · rw [if_pos rfl]
      refine ⟨fun m h1 h2 h3 => ?_, fun h => absurd (h i (by omega)) al⟩
      have : m = i := by
        rcases Nat.lt_trichotomy m i with g | g | g
        · exact absurd (hal m g) h3
        · exact g
        · exact absurd (h1 i g) al
      rw [this]
theorem ffBad (ch : Nat → Int32) (t m : Nat) (h : TX t E ch) (h1 : ∀ j, j < m → alA E j) (h2 : m < t) (h3 : ¬ alA E m) : mX2_findFault (iI t) ch = some (iI m) := by
  have := h.2.1
  exact (findFault_6 ch t (by omega) h.2.2 t FU 0 (by rw [FU_big]; omega) (by omega) (fun j hj => absurd hj (by omega))).1 m h1 h2 h3
theorem ffAll (ch : Nat → Int32) (t : Nat) (h : TX t E ch) (h1 : ∀ j, j < t → alA E j) : mX2_findFault (iI t) ch = some (iI (if 0 < t ∧ dpA E t = 0 then -1 else t)) := by
  have := h.2.1
  exact (findFault_6 ch t (by omega) h.2.2 t FU 0 (by rw [FU_big]; omega) (by omega) (fun j hj => absurd hj (by omega))).2 h1
theorem readFault (n : Int32) (d lb : Nat → Int32) (sl kp : Int32) (ct gd gl ch : Nat → Int32) (ln : Int32) (r : Int) (hr : 0 ≤ r) (hr2 : r ≤ 300) (h : mX2_findFault ln ch = some (iI r)) : mX4_read n d lb sl kp ct gd gl ln ch = some (iI (-100 - r), n, d, lb, sl, kp, ct, gd, gl) := by
  unfold mX4_read
  rw [h, Option.bind_some, if_neg (show ¬ iI r = iI (-1) by rw [iI_eq (by omega) (by omega) (by omega) (by omega)]; omega), iI_sub]
theorem readOf {N S K : Int} {F G : Int → Int} {d lb ct gd gl : Nat → Int32} (T : TR N F G (iI N) d lb) (H : HI S K ct gd gl) (ch : Nat → Int32) (t : Nat) (h : TX t E ch) (h1 : ∀ j, j < t → alA E j) (h0 : 0 < t) (hd : dpA E t = 0) : ∃ (S' : Int) (d' lb' ct' gd' gl' : Nat → Int32), mX4_read (iI N) d lb (iI S) (iI K) ct gd gl (iI t) ch = some (iI (nmA E t), iI (nmA E t), d', lb', iI S', iI (up15 K), ct', gd', gl') ∧ (∀ y, 0 ≤ y → y < nmA E t → d' y.toNat = iI (FA E t y) ∧ lb' y.toNat = iI (GA E t y)) ∧ HI S' (up15 K) ct' gd' gl' ∧ HT (slotOf S' 0) N F G ct' gd' gl' := by
  have ht := h.2.1
  obtain ⟨S', ct', gd', gl', r1, r2, r3⟩ := recOf T H
  obtain ⟨d', lb', w1, w2⟩ := makeTree_8 (E := E) ch t (by omega) h.2.2 h1 t FU 0 d lb (by rw [FU_big]; omega) (by omega) (fun y y1 y2 => absurd y2 (by simp [nmA]; omega))
  have mt : mX2_makeTree (iI N) d lb (iI t) ch = some (iI (nmA E t), d', lb') := w1
  refine ⟨S', d', lb', ct', gd', gl', ?_, w2, r2, r3⟩
  unfold mX4_read
  rw [ffAll ch t h h1, if_pos ⟨h0, hd⟩, Option.bind_some, if_pos rfl, r1, Option.bind_some, mt]
  rfl
/-! how a text goes on -/
theorem al_cong {E E' : Int → Int} : ∀ (i : Nat), (∀ j : Nat, j < i → E j = E' j) → nmA E i = nmA E' i ∧ dpA E i = dpA E' i ∧ lsA E i = lsA E' i
  | 0, _ => ⟨rfl, rfl, rfl⟩
  | i + 1, h => by
    have a := al_cong i (fun j hj => h j (by omega))
    have b := h i (by omega)
    refine ⟨?_, ?_, ?_⟩
    · rw [nmA, nmA, a.1, b]
    · rw [dpA, dpA, a.2.1, b]
    · rw [lsA, lsA, b]
theorem alA_cong {E E' : Int → Int} (i : Nat) (h : ∀ j : Nat, j ≤ i → E j = E' j) : alA E i ↔ alA E' i := by
  have a := al_cong (E := E) (E' := E') i (fun j hj => h j (by omega))
  have b := h i (Nat.le_refl _)
  unfold alA
  rw [a.1, a.2.1, a.2.2, b]
/-- i signs were allowed; x nodes, depth p, and the rows made so far are F and G -/
def Q4 (E F G : Int → Int) (i : Nat) (x p : Int) : Prop := (∀ j, j < i → alA E j) ∧ nmA E i = x ∧ dpA E i = p ∧ (∀ y, 0 ≤ y → y < x → FA E i y = F y ∧ GA E i y = G y)
variable {F G : Int → Int}
theorem Q4.letter {i : Nat} {x p : Int} (h : Q4 E F G i x p) (l : ltr (E i)) (hx : x < 100) (hp : i = 0 ∨ 0 < p) (hF : F x = p) (hG : G x = E i) : Q4 E F G (i + 1) (x + 1) p ∧ lsA E (i + 1) = 1 := by
  obtain ⟨h1, h2, h3, h4⟩ := h
  refine ⟨⟨fun j hj => ?_, ?_, ?_, fun y y1 y2 => ?_⟩, ?_⟩
  · by_cases q : j = i
    · rw [q]; exact Or.inr (Or.inr ⟨l, by rw [h3]; exact hp, by rw [h2]; exact hx⟩)
    · exact h1 j (by omega)
  · rw [nmA, h2, if_pos l]
  · rw [dpA, h3, if_neg (by omega), if_neg (by omega), Int.add_zero]
  · rw [FA_yes l, GA_yes l, h2, h3]
    by_cases q : y = x
    · rw [if_pos q, if_pos q, q, hF, hG]; exact ⟨rfl, rfl⟩
    · rw [if_neg q, if_neg q]; exact h4 y y1 (by omega)
  · rw [lsA, if_pos l]
theorem Q4.open_ {i : Nat} {x p : Int} (h : Q4 E F G i x p) (l : E i = 40) (hl : lsA E i = 1) : Q4 E F G (i + 1) x (p + 1) ∧ lsA E (i + 1) = 2 := by
  obtain ⟨h1, h2, h3, h4⟩ := h
  have nl : ¬ ltr (E i) := by omega
  refine ⟨⟨fun j hj => ?_, ?_, ?_, fun y y1 y2 => ?_⟩, ?_⟩
  · by_cases q : j = i
    · rw [q]; exact Or.inl ⟨l, hl⟩
    · exact h1 j (by omega)
  · rw [nmA, h2, if_neg nl, Int.add_zero]
  · rw [dpA, h3, if_pos l]
  · rw [FA_no nl, GA_no nl]; exact h4 y y1 y2
  · rw [lsA, if_neg nl, if_pos l]
theorem Q4.close {i : Nat} {x p : Int} (h : Q4 E F G i x p) (l : E i = 41) (hp : 0 < p) (hl : lsA E i ≠ 2) : Q4 E F G (i + 1) x (p - 1) ∧ lsA E (i + 1) = 3 := by
  obtain ⟨h1, h2, h3, h4⟩ := h
  have nl : ¬ ltr (E i) := by omega
  refine ⟨⟨fun j hj => ?_, ?_, ?_, fun y y1 y2 => ?_⟩, ?_⟩
  · by_cases q : j = i
    · rw [q]; exact Or.inr (Or.inl ⟨l, by rw [h3]; exact hp, hl⟩)
    · exact h1 j (by omega)
  · rw [nmA, h2, if_neg nl, Int.add_zero]
  · rw [dpA, h3, if_neg (by omega), if_pos l, Int.sub_eq_add_neg]
  · rw [FA_no nl, GA_no nl]; exact h4 y y1 y2
  · rw [lsA, if_neg nl, if_neg (by omega)]
/-! the written text -/
/-- where node x stands in it -/
def Ps (F : Int → Int) : Nat → Int
  | 0 => 0
  | x + 1 => Ps F x + 1 + Sg F x
variable {N : Int}
theorem TV.ps (T : TV N F G) : ∀ x : Nat, (x : Int) ≤ Ps F x ∧ Ps F x ≤ 100 * x
  | 0 => ⟨Int.le_refl _, Int.le_refl _⟩
  | x + 1 => by
    have a := TV.ps T x
    have b := T.sg x
    rw [Ps]
    omega
theorem TV.psLt (T : TV N F G) : ∀ (k x : Nat), Ps F x + k ≤ Ps F (x + k)
  | 0, x => by simp
  | k + 1, x => by
    have a := TV.psLt T k x
    have b := T.sg ((x + k : Nat) : Int)
    rw [show x + (k + 1) = (x + k) + 1 by omega, Ps]
    omega
/-- three signs a node at most: each node but the root closes once, and opens once at most -/
theorem TV.psBd (T : TV N F G) : ∀ x : Nat, (x : Int) ≤ N → Ps F x + F x ≤ 3 * x
  | 0, _ => by have := T.2.2.1; rw [Ps]; simp; omega
  | x + 1, h => by
    have a := TV.psBd T x (by omega)
    have u := T.up x (by omega)
    rw [Ps, show ((x + 1 : Nat) : Int) = (x : Int) + 1 by omega]
    unfold Sg Lf
    by_cases c : F ((x : Int) + 1) ≤ F x
    · rw [if_pos (by simpa using c)]; omega
    · rw [if_neg (by simpa using c)]; omega
theorem Wl_ps (F : Int → Int) : ∀ (k x : Nat), Ps F x + Wl F k x = Ps F (x + k)
  | 0, x => by rw [Wl, Nat.add_zero, Int.add_zero]
  | k + 1, x => by
    have a := Wl_ps F k (x + 1)
    rw [Wl, show x + (k + 1) = x + 1 + k by omega, ← a, Ps, show ((x + 1 : Nat) : Int) = (x : Int) + 1 by omega]
    omega
theorem TV.waAt (T : TV N F G) (x : Nat) (j : Int) (hj : 0 ≤ j) (hj2 : j ≤ Sg F x) : ∀ (m x0 k : Nat), x0 + m = x → m < k → Wa F G (Ps F x + j) k (Ps F x0) x0 = if j = 0 then G x else if Lf F x = true then 41 else 40
  | 0, x0, k, h, h2 => by
    obtain ⟨k, rfl⟩ : ∃ g, k = g + 1 := ⟨k - 1, by omega⟩
    have e : x0 = x := by omega
    subst e
    rw [Wa]
    by_cases q : j = 0
    · rw [if_pos (by omega), if_pos q]
    · rw [if_neg (by omega), if_neg (by omega), if_neg q]
  | m + 1, x0, k, h, h2 => by
    obtain ⟨k, rfl⟩ : ∃ g, k = g + 1 := ⟨k - 1, by omega⟩
    have p := T.psLt m (x0 + 1)
    have b := T.sg x0
    have ps : Ps F (x0 + 1) = Ps F x0 + 1 + Sg F x0 := rfl
    rw [show x0 + 1 + m = x by omega] at p
    have r := TV.waAt T x j hj hj2 m (x0 + 1) k (by omega) (by omega)
    rw [Wa, if_neg (by omega), if_pos (by omega), ← ps]
    rw [show ((x0 + 1 : Nat) : Int) = (x0 : Int) + 1 by omega] at r
    exact r
/-- the written text as signs -/
def Ew (F G : Int → Int) (N : Int) : Int → Int := fun q => Wa F G q N.toNat 0 0
theorem TV.ewAt (T : TV N F G) (x : Nat) (hx : (x : Int) < N) (j : Int) (hj : 0 ≤ j) (hj2 : j ≤ Sg F x) : Ew F G N (Ps F x + j) = if j = 0 then G x else if Lf F x = true then 41 else 40 :=
  T.waAt x j hj hj2 x 0 N.toNat (by omega) (by omega)
/-- past its end there is none -/
theorem TV.waEnd (T : TV N F G) (q : Int) : ∀ (k x0 : Nat), Ps F (x0 + k) ≤ q → Wa F G q k (Ps F x0) x0 = -5
  | 0, x0, _ => rfl
  | k + 1, x0, h => by
    have p := T.psLt k (x0 + 1)
    have b := T.sg x0
    have ps : Ps F (x0 + 1) = Ps F x0 + 1 + Sg F x0 := rfl
    rw [show x0 + (k + 1) = x0 + 1 + k by omega] at h
    have r := TV.waEnd T q k (x0 + 1) h
    rw [show ((x0 + 1 : Nat) : Int) = (x0 : Int) + 1 by omega] at r
    rw [Wa, if_neg (by omega), if_pos (by omega), ← ps]
    exact r
theorem TV.q4 (T : TV N F G) : ∀ x : Nat, (x : Int) ≤ N → Q4 (Ew F G N) F G (Ps F x).toNat x (F x)
  | 0, _ => by
    have := T.2.2.1
    exact ⟨fun j hj => absurd hj (by simp [Ps]), rfl, by simpa [Ps, dpA] using this.symm, fun y y1 y2 => absurd y2 (by simp; omega)⟩
  | x + 1, h => by
    have q := TV.q4 T x (by omega)
    have ps := T.ps x
    have n := T.nn
    have lab := T.lab x (by omega) (by omega)
    have sg := T.sg x
    have u := T.up x (by omega)
    have bx := T.bd x
    have bx1 := T.bd ((x : Int) + 1)
    have e0 := T.ewAt x (by omega) 0 (Int.le_refl _) sg.1
    rw [if_pos rfl, Int.add_zero] at e0
    have ec : ((Ps F x).toNat : Int) = Ps F x := by omega
    have fp : (Ps F x).toNat = 0 ∨ 0 < F x := by
      by_cases z : x = 0
      · left; rw [z]; rfl
      · right; have := T.pos x (by omega) (by omega); omega
    obtain ⟨q1, l1⟩ := q.letter (by rw [ec, e0]; exact lab) (by omega) fp rfl (by rw [ec, e0])
    have pe : Ps F (x + 1) = Ps F x + 1 + Sg F x := rfl
    rw [show ((x + 1 : Nat) : Int) = (x : Int) + 1 by omega]
    by_cases c : F ((x : Int) + 1) ≤ F x
    · have lf : Lf F x = true := by simpa [Lf] using c
      have se : Sg F x = F x - F ((x : Int) + 1) := by unfold Sg; rw [if_pos lf]
      have cl : ∀ j : Nat, (j : Int) ≤ Sg F x → Q4 (Ew F G N) F G ((Ps F x).toNat + 1 + j) ((x : Int) + 1) (F x - j) ∧ lsA (Ew F G N) ((Ps F x).toNat + 1 + j) ≠ 2 := by
        intro j
        induction j with
        | zero => intro _; rw [Nat.add_zero]; refine ⟨by simpa using q1, by omega⟩
        | succ j ih =>
          intro hj
          obtain ⟨a1, a2⟩ := ih (by omega)
          have e1 := T.ewAt x (by omega) ((j : Int) + 1) (by omega) (by omega)
          rw [if_neg (by omega), if_pos lf] at e1
          obtain ⟨b1, b2⟩ := a1.close (by rw [show (((Ps F x).toNat + 1 + j : Nat) : Int) = Ps F x + ((j : Int) + 1) by omega]; exact e1) (by omega) a2
          rw [show (Ps F x).toNat + 1 + (j + 1) = (Ps F x).toNat + 1 + j + 1 by omega]
          refine ⟨?_, by omega⟩
          rw [show F x - ((j + 1 : Nat) : Int) = F x - (j : Int) - 1 by omega]
          exact b1
      have r := (cl (Sg F x).toNat (by omega)).1
      rw [show (Ps F x).toNat + 1 + (Sg F x).toNat = (Ps F (x + 1)).toNat by omega, show F x - ((Sg F x).toNat : Int) = F ((x : Int) + 1) by omega] at r
      exact r
    · have lf : ¬ Lf F x = true := by simpa [Lf] using c
      have se : Sg F x = 1 := by unfold Sg; rw [if_neg lf]
      have e1 := T.ewAt x (by omega) 1 (by omega) (by omega)
      rw [if_neg (by omega), if_neg lf] at e1
      obtain ⟨b1, -⟩ := q1.open_ (by rw [show (((Ps F x).toNat + 1 : Nat) : Int) = Ps F x + 1 by omega]; exact e1) l1
      rw [show (Ps F x).toNat + 1 + 1 = (Ps F (x + 1)).toNat by omega, show F x + 1 = F ((x : Int) + 1) by omega] at b1
      exact b1
/-- each sign of it is a character -/
theorem TV.ewBd (T : TV N F G) (q : Int) (h : 0 ≤ q) (h2 : q < Ps F N.toNat) : 0 ≤ Ew F G N q ∧ Ew F G N q < 65536 := by
  have key : ∀ (k x : Nat) (s : Int), (x : Int) + k ≤ N → 0 ≤ s → (Wa F G q k s x = -5 ∨ (0 ≤ Wa F G q k s x ∧ Wa F G q k s x < 65536)) := by
    intro k
    induction k with
    | zero => intro x s _ _; exact Or.inl rfl
    | succ k ih =>
      intro x s hx hs
      have lab := T.lab x (by omega) (by omega)
      have sg := T.sg x
      rw [Wa]
      by_cases c1 : q = s
      · rw [if_pos c1]; exact Or.inr ⟨by omega, by omega⟩
      · rw [if_neg c1]
        by_cases c2 : s + 1 + Sg F x ≤ q
        · rw [if_pos c2]
          have := ih (x + 1) (s + 1 + Sg F x) (by omega) (by omega)
          rw [show ((x + 1 : Nat) : Int) = (x : Int) + 1 by omega] at this
          exact this
        · rw [if_neg c2]
          by_cases c3 : Lf F x = true
          · rw [if_pos c3]; exact Or.inr ⟨by omega, by omega⟩
          · rw [if_neg c3]; exact Or.inr ⟨by omega, by omega⟩
  have n := T.nn
  have ex : ∃ x : Nat, (x : Int) < N ∧ Ps F x ≤ q ∧ q < Ps F (x + 1) := by
    have step : ∀ x : Nat, (x : Int) ≤ N → q < Ps F x → ∃ x : Nat, (x : Int) < N ∧ Ps F x ≤ q ∧ q < Ps F (x + 1) := by
      intro x
      induction x with
      | zero => intro _ g; exact absurd g (by rw [Ps]; omega)
      | succ x ih =>
        intro g1 g2
        by_cases c : q < Ps F x
        · exact ih (by omega) c
        · exact ⟨x, by omega, by omega, g2⟩
    exact step N.toNat (by omega) h2
  obtain ⟨x, x1, x2, x3⟩ := ex
  have pe : Ps F (x + 1) = Ps F x + 1 + Sg F x := rfl
  have lab := T.lab x (by omega) x1
  have e := T.ewAt x x1 (q - Ps F x) (by omega) (by omega)
  rw [show Ps F x + (q - Ps F x) = q by omega] at e
  rw [e]
  by_cases c : q - Ps F x = 0
  · rw [if_pos c]; omega
  · rw [if_neg c]
    by_cases c3 : Lf F x = true
    · rw [if_pos c3]; omega
    · rw [if_neg c3]; omega
end FAULT
