/-! 52: labels in a subtree, equal subtrees (the law's labels) -/
theorem kth_lt (p : Int → Bool) (e : Int) (k : Nat) (x j : Int) (hj : 0 ≤ j) (h : j + 1 < cnt p k x) : kth p e k x j < kth p e k x (j + 1) := by
  have a := kth_full p e k x j hj (by omega)
  have b := kth_full p e k x (j + 1) (by omega) h
  by_cases c : kth p e k x j < kth p e k x (j + 1)
  · exact c
  · have m := cnt_mid p x (kth p e k x (j + 1)) (kth p e k x j) b.1 (by omega)
    have m2 := cnt_bd p (kth p e k x j - kth p e k x (j + 1)).toNat (kth p e k x (j + 1))
    omega
section LABELS
variable {N : Int} {F G : Int → Int} {d lb : Nat → Int32}
/-- equal subtrees, place by place -/
def EQ (F G : Int → Int) (N v w : Int) : Prop := En F N w - w = En F N v - v ∧ ∀ i, 0 ≤ i → i < En F N v - v → G (v + i) = G (w + i) ∧ F (v + i) - F v = F (w + i) - F w
theorem Ss_iff (F G : Int → Int) (v w : Int) : ∀ (k : Nat) (i : Int), Ss F G v w k i = true ↔ ∀ j, i ≤ j → j < i + k → G (v + j) = G (w + j) ∧ F (v + j) - F v = F (w + j) - F w
  | 0, i => by
    rw [Ss]
    exact ⟨fun _ j g1 g2 => absurd g2 (by omega), fun _ => rfl⟩
  | k + 1, i => by
    rw [Ss, Bool.and_eq_true, Bool.and_eq_true, decide_eq_true_eq, decide_eq_true_eq, Ss_iff F G v w k (i + 1)]
    constructor
    · intro h j g1 g2
      by_cases q : j = i
      · rw [q]; exact ⟨h.1, h.2.1⟩
      · exact h.2.2 j (by omega) (by omega)
    · intro h
      have a := h i (Int.le_refl _) (by omega)
      exact ⟨a.1, a.2, fun j g1 g2 => h j (by omega) (by omega)⟩
theorem TV.eqIff (T : TV N F G) (v w : Int) (h : 0 ≤ v) (h2 : v < N) : Eq2 F G N v w = true ↔ EQ F G N v w := by
  have e := T.en v h h2
  unfold Eq2 EQ
  rw [Bool.and_eq_true, decide_eq_true_eq, Ss_iff]
  constructor
  · intro q; exact ⟨q.1, fun i g1 g2 => q.2 i g1 (by omega)⟩
  · intro q; exact ⟨q.1, fun i g1 g2 => q.2 i g1 (by omega)⟩
theorem TV.eqDown (T : TV N F G) (v w : Int) (h : 0 ≤ v) (h2 : v < N) (h3 : 0 ≤ w) (h4 : w < N) (q : EQ F G N v w) : G v = G w ∧ Cc F N v = Cc F N w ∧ ∀ k, 0 ≤ k → k < Cc F N v → EQ F G N (Sp F N v k) (Sp F N w k) := by
  have ev := T.en v h h2
  have ew := T.en w h3 h4
  obtain ⟨q1, q2⟩ := q
  have g0 := (q2 0 (Int.le_refl _) (by omega)).1
  rw [Int.add_zero, Int.add_zero] at g0
  have cs : ∀ y, v < y → y ≤ En F N v → cnt (Ch F v) (y - (v + 1)).toNat (v + 1) = cnt (Ch F w) (w + (y - v) - (w + 1)).toNat (w + 1) := by
    intro y g1 g2
    have := cnt_shift (Ch F v) (Ch F w) (w - v) (y - (v + 1)).toNat (v + 1) (fun z z1 z2 => by
      have := (q2 (z - v) (by omega) (by omega)).2
      rw [show v + (z - v) = z by omega, show w + (z - v) = z + (w - v) by omega] at this
      unfold Ch
      by_cases t : F z = F v + 1
      · rw [decide_eq_true t, decide_eq_true (show F (z + (w - v)) = F w + 1 by omega)]
      · rw [decide_eq_false t, decide_eq_false (show ¬ F (z + (w - v)) = F w + 1 by omega)])
    rw [this, show v + 1 + (w - v) = w + 1 by omega, show w + (y - v) - (w + 1) = y - (v + 1) by omega]
  have ccE : Cc F N v = Cc F N w := by
    have := cs (En F N v) ev.1 (Int.le_refl _)
    unfold Cc
    rw [show En F N v - v - 1 = En F N v - (v + 1) by omega, this, show w + (En F N v - v) - (w + 1) = En F N w - w - 1 by omega]
  refine ⟨g0, ccE, fun k k1 k2 => ?_⟩
  obtain ⟨s1, s2, s3, s4⟩ := T.spIn v k h h2 k1 k2
  have ec := T.en (Sp F N v k) (by omega) (by omega)
  have ei := T.enIn v (Sp F N v k) h h2 s1 s2
  generalize Sp F N v k = c at s1 s2 s3 s4 ec ei ⊢
  have fy := (q2 (c - v) (by omega) (by omega)).2
  rw [show v + (c - v) = c by omega] at fy
  have sy : Sp F N w k = w + (c - v) := by
    have := T.spAt w (w + (c - v)) h3 h4 (by omega) (by omega) (by omega)
    rw [← cs c s1 (by omega), s4] at this
    exact this
  rw [sy]
  have eny : En F N (w + (c - v)) = w + (En F N c - v) := by
    refine T.enEq (w + (c - v)) _ (by omega) (by omega) (by omega) (by omega) (fun y g1 g2 => ?_) ?_
    · have a := ec.2.2.1 (v + (y - w)) (by omega) (by omega)
      have b := (q2 (y - w) (by omega) (by omega)).2
      rw [show w + (y - w) = y by omega] at b
      omega
    · by_cases z : En F N c < En F N v
      · have b := (q2 (En F N c - v) (by omega) (by omega)).2
        rw [show v + (En F N c - v) = En F N c by omega] at b
        omega
      · rw [show w + (En F N c - v) = En F N w by omega]
        omega
  refine ⟨by omega, fun i i1 i2 => ?_⟩
  have b := q2 (c - v + i) (by omega) (by omega)
  rw [show v + (c - v + i) = c + i by omega, show w + (c - v + i) = w + (c - v) + i by omega] at b
  exact ⟨b.1, by omega⟩
theorem TV.eqUp (T : TV N F G) (v w : Int) (h : 0 ≤ v) (h2 : v < N) (h3 : 0 ≤ w) (h4 : w < N) (g : G v = G w) (c : Cc F N v = Cc F N w) (q : ∀ k, 0 ≤ k → k < Cc F N v → EQ F G N (Sp F N v k) (Sp F N w k)) : EQ F G N v w := by
  have ev := T.en v h h2
  have ew := T.en w h3 h4
  have cc := T.cc v h h2
  have key : ∀ k : Nat, (k : Int) ≤ Cc F N v → Sp F N w k - w = Sp F N v k - v ∧ ∀ i, 0 ≤ i → i < Sp F N v k - v → G (v + i) = G (w + i) ∧ F (v + i) - F v = F (w + i) - F w := by
    intro k
    induction k with
    | zero =>
      intro _
      have a := T.sp0 v h h2
      have b := T.sp0 w h3 h4
      refine ⟨by simp only [Int.natCast_zero]; omega, fun i i1 i2 => ?_⟩
      simp only [Int.natCast_zero] at i2
      have : i = 0 := by omega
      rw [this, Int.add_zero, Int.add_zero]
      exact ⟨g, by omega⟩
    | succ k ih =>
      intro hk
      obtain ⟨a, b⟩ := ih (by omega)
      obtain ⟨s1, s2, s3, s4⟩ := T.spIn v k h h2 (by omega) (by omega)
      obtain ⟨t1, t2, t3, t4⟩ := T.spIn w k h3 h4 (by omega) (by omega)
      have nv := T.spNext v k h h2 (by omega) (by omega)
      have nw := T.spNext w k h3 h4 (by omega) (by omega)
      obtain ⟨e1, e2⟩ := q k (by omega) (by omega)
      rw [show ((k + 1 : Nat) : Int) = (k : Int) + 1 by omega]
      refine ⟨by omega, fun i i1 i2 => ?_⟩
      by_cases z : i < Sp F N v k - v
      · exact b i i1 z
      · have := e2 (i - (Sp F N v k - v)) (by omega) (by omega)
        rw [show Sp F N v k + (i - (Sp F N v k - v)) = v + i by omega, show Sp F N w k + (i - (Sp F N v k - v)) = w + i by omega] at this
        exact ⟨this.1, by omega⟩
  have r := key (Cc F N v).toNat (by omega)
  rw [show ((Cc F N v).toNat : Int) = Cc F N v by omega, T.spEnd v _ (Int.le_refl _), T.spEnd w _ (by omega)] at r
  exact r
theorem EQ_refl (F G : Int → Int) (N v : Int) : EQ F G N v v := ⟨rfl, fun _ _ _ => ⟨rfl, rfl⟩⟩
theorem labels_293 (T : TR N F G (iI N) d lb) (v w g x9 : Int) (h : 0 ≤ v) (h2 : v < N) (h3 : 0 ≤ w) (h4 : w < N) (hg : 97 ≤ g) (hg2 : g ≤ 122) (hx : x9 = if Eq2 F G N v w = true then 1 else 0) : mL_labels_293 (iI N) d lb (iI v) (iI w) (iI g) (iI (cnt (fun y => decide (G y = g)) (En F N v - v).toNat v)) (iI (cnt (fun y => decide (G y = g)) (En F N v - v).toNat v)) (iI (cnt (Eq2 F G N v) N.toNat 0)) (iI (Fa F G g v.toNat (v - 1) (F v))) (iI x9) = some (iI 1) := by
  have hN := T.1.nn
  have en := T.1.en v h h2
  have b := cnt_bd (fun y => decide (G y = g)) (En F N v - v).toNat v
  unfold mL_labels_293
  rw [if_pos rfl, slOf T v g _ h h2 hg hg2 (by omega) (by omega), kth_past _ _ _ _ _ (Int.le_refl _), Option.bind_some, if_pos rfl, slNeg T v g h h2 hg hg2, Option.bind_some, if_pos rfl, slBad T v 65 _ h h2 (by omega) (by omega), Option.bind_some, if_pos rfl, cpOf T v h h2, Option.bind_some, if_pos rfl, aeOf T v v h h2 h h2, if_pos ((T.1.eqIff v v h h2).mpr (EQ_refl F G N v)), Option.bind_some, if_pos rfl, awOf T v g h h2 hg hg2, Option.bind_some, if_pos rfl, aeOf T v w h h2 h3 h4, Option.bind_some]
  unfold mL_labels_385
  by_cases q : Eq2 F G N v w = true
  · rw [hx, if_pos q, if_neg e10, if_pos rfl]
  · rw [hx, if_neg q, if_pos e00, if_pos rfl]
theorem labels_242 (T : TR N F G (iI N) d lb) (v w g : Int) (h : 0 ≤ v) (h2 : v < N) (h3 : 0 ≤ w) (h4 : w < N) (hg : 97 ≤ g) (hg2 : g ≤ 122) : ∀ (m f : Nat) (k x9 : Int), m + 1 < f → 0 ≤ k → (x9 = 1 ∧ k + m = Cc F N v ∧ G v = G w ∧ Cc F N v = Cc F N w ∧ (∀ j, 0 ≤ j → j < k → EQ F G N (Sp F N v j) (Sp F N w j)) ∨ x9 = 0 ∧ k ≤ 1000 ∧ ¬ Eq2 F G N v w = true) → mL_labels_242 f (iI N) d lb (iI v) (iI w) (iI g) (iI (cnt (fun y => decide (G y = g)) (En F N v - v).toNat v)) (iI (cnt (fun y => decide (G y = g)) (En F N v - v).toNat v)) (iI (cnt (Eq2 F G N v) N.toNat 0)) (iI (Fa F G g v.toNat (v - 1) (F v))) (iI x9) (iI k) = some (iI 1) := by
  have hN := T.1.nn
  have cc := T.1.cc v h h2
  have zero : ∀ (f : Nat) (k : Int), 0 ≤ k → k ≤ 1000 → ¬ Eq2 F G N v w = true → mL_labels_242 (f + 1) (iI N) d lb (iI v) (iI w) (iI g) (iI (cnt (fun y => decide (G y = g)) (En F N v - v).toNat v)) (iI (cnt (fun y => decide (G y = g)) (En F N v - v).toNat v)) (iI (cnt (Eq2 F G N v) N.toNat 0)) (iI (Fa F G g v.toNat (v - 1) (F v))) (iI 0) (iI k) = some (iI 1) := by
    intro f k hk hk2 ne
    have r := labels_293 T v w g 0 h h2 h3 h4 hg hg2 (by rw [if_neg ne])
    rw [mL_labels_242, nd2 T v h h2, Option.bind_some, if_pos e00, r]
    split <;> rfl
  intro m
  induction m with
  | zero =>
    intro f k x9 hf hk hm
    obtain ⟨f, rfl⟩ : ∃ g, f = g + 1 := ⟨f - 1, by omega⟩
    rcases hm with ⟨rfl, e, a1, a2, a3⟩ | ⟨rfl, e, ne⟩
    · have eq : Eq2 F G N v w = true := (T.1.eqIff v w h h2).mpr (T.1.eqUp v w h h2 h3 h4 a1 a2 (fun j j1 j2 => a3 j j1 (by omega)))
      rw [mL_labels_242, nd2 T v h h2, Option.bind_some, if_pos (show iI (Cc F N v) ≤ iI k by rw [iI_le (by omega) (by omega) (by omega) (by omega)]; omega)]
      exact labels_293 T v w g 1 h h2 h3 h4 hg hg2 (by rw [if_pos eq])
    · exact zero f k hk e ne
  | succ m ih =>
    intro f k x9 hf hk hm
    obtain ⟨f, rfl⟩ : ∃ g, f = g + 1 := ⟨f - 1, by omega⟩
    rcases hm with ⟨rfl, e, a1, a2, a3⟩ | ⟨rfl, e, ne⟩
    · obtain ⟨s1, s2, s3, s4⟩ := T.1.spIn v k h h2 hk (by omega)
      obtain ⟨t1, t2, t3, t4⟩ := T.1.spIn w k h3 h4 hk (by omega)
      have ev := T.1.en v h h2
      have ew := T.1.en w h3 h4
      rw [mL_labels_242, nd2 T v h h2, Option.bind_some, if_neg (show ¬ iI (Cc F N v) ≤ iI k by rw [iI_le (by omega) (by omega) (by omega) (by omega)]; omega), if_neg e10, chOf T v k h h2 hk (by omega), if_pos (show k < Cc F N v by omega), Option.bind_some, chOf T w k h3 h4 hk (by omega), if_pos (show k < Cc F N w by omega), Option.bind_some, aeOf T (Sp F N v k) (Sp F N w k) (by omega) (by omega) (by omega) (by omega), Option.bind_some]
      unfold mL_labels_285
      rw [iI_add]
      by_cases q : Eq2 F G N (Sp F N v k) (Sp F N w k) = true
      · rw [if_pos q, if_pos rfl]
        refine ih f (k + 1) 1 (by omega) (by omega) (Or.inl ⟨rfl, by omega, a1, a2, fun j j1 j2 => ?_⟩)
        by_cases z : j = k
        · rw [z]; exact (T.1.eqIff _ _ (by omega) (by omega)).mp q
        · exact a3 j j1 (by omega)
      · rw [if_neg q, if_neg (by decide)]
        refine ih f (k + 1) 0 (by omega) (by omega) (Or.inr ⟨rfl, by omega, fun z => q ?_⟩)
        have dn := (T.1.eqDown v w h h2 h3 h4 ((T.1.eqIff v w h h2).mp z)).2.2 k hk (by omega)
        exact (T.1.eqIff _ _ (by omega) (by omega)).mpr dn
    · exact zero f k hk e ne
theorem labels_200 (T : TR N F G (iI N) d lb) (v w g : Int) (h : 0 ≤ v) (h2 : v < N) (h3 : 0 ≤ w) (h4 : w < N) (hg : 97 ≤ g) (hg2 : g ≤ 122) : mL_labels_200 (iI N) d lb (iI v) (iI w) (iI g) (iI (cnt (fun y => decide (G y = g)) (En F N v - v).toNat v)) (iI (cnt (fun y => decide (G y = g)) (En F N v - v).toNat v)) (iI (cnt (Eq2 F G N v) N.toNat 0)) (iI (Fa F G g v.toNat (v - 1) (F v))) = some (iI 1) := by
  have hN := T.1.nn
  have cv := T.1.cc v h h2
  have cw := T.1.cc w h3 h4
  have lv := T.1.lab v h h2
  have lw := T.1.lab w h3 h4
  have no : ¬ (G v = G w ∧ Cc F N v = Cc F N w) → mL_labels_236 (iI N) d lb (iI v) (iI w) (iI g) (iI (cnt (fun y => decide (G y = g)) (En F N v - v).toNat v)) (iI (cnt (fun y => decide (G y = g)) (En F N v - v).toNat v)) (iI (cnt (Eq2 F G N v) N.toNat 0)) (iI (Fa F G g v.toNat (v - 1) (F v))) = some (iI 1) := fun q => by
    unfold mL_labels_236 mL_labels_237
    refine labels_242 T v w g h h2 h3 h4 hg hg2 0 FU 0 0 (by rw [FU_big]; omega) (Int.le_refl _) (Or.inr ⟨rfl, by omega, fun z => q ?_⟩)
    have dn := T.1.eqDown v w h h2 h3 h4 ((T.1.eqIff v w h h2).mp z)
    exact ⟨dn.1, dn.2.1⟩
  unfold mL_labels_200
  rw [nd10 T v h h2, Option.bind_some, nd10 T w h3 h4, Option.bind_some]
  by_cases a : G v = G w
  · rw [if_pos (congrArg iI a), nd2 T v h h2, Option.bind_some, nd2 T w h3 h4, Option.bind_some]
    by_cases b : Cc F N v = Cc F N w
    · rw [if_pos (congrArg iI b)]
      unfold mL_labels_237
      exact labels_242 T v w g h h2 h3 h4 hg hg2 (Cc F N v).toNat FU 0 1 (by rw [FU_big]; omega) (Int.le_refl _) (Or.inl ⟨rfl, by omega, a, b, fun j j1 j2 => by omega⟩)
    · rw [if_neg (show ¬ iI (Cc F N v) = iI (Cc F N w) by rw [iI_eq (by omega) (by omega) (by omega) (by omega)]; exact b)]
      exact no (fun q => b q.2)
  · rw [if_neg (show ¬ iI (G v) = iI (G w) by rw [iI_eq (by omega) (by omega) (by omega) (by omega)]; exact a)]
    exact no (fun q => a q.1)
theorem TV.paBd (T : TV N F G) (v : Int) (h : 0 ≤ v) (h2 : v < N) : Pa F v = -5 ∨ 0 ≤ Pa F v ∧ Pa F v < v := by
  by_cases z : v = 0
  · left; unfold Pa; rw [if_pos z]
  · right
    have := T.paSpec v (by omega) h2
    exact ⟨this.1, this.2.1⟩
theorem labels_171 (T : TR N F G (iI N) d lb) (v w g : Int) (h : 0 ≤ v) (h2 : v < N) (h3 : 0 ≤ w) (h4 : w < N) (hg : 97 ≤ g) (hg2 : g ≤ 122) : ∀ (m f : Nat) (u : Int), m < f → u < m → (u = -5 ∨ 0 ≤ u) → u < N → Fa F G g v.toNat (v - 1) (F v) = (if u < 0 then -5 else if G u = g then u else Fa F G g u.toNat (u - 1) (F u)) → mL_labels_171 f (iI N) d lb (iI v) (iI w) (iI g) (iI (cnt (fun y => decide (G y = g)) (En F N v - v).toNat v)) (iI (cnt (fun y => decide (G y = g)) (En F N v - v).toNat v)) (iI (cnt (Eq2 F G N v) N.toNat 0)) (iI u) = some (iI 1) := by
  have hN := T.1.nn
  have fin := labels_200 T v w g h h2 h3 h4 hg hg2
  intro m
  induction m with
  | zero =>
    intro f u hf hu hu2 hu3 e
    obtain ⟨f, rfl⟩ : ∃ g, f = g + 1 := ⟨f - 1, by omega⟩
    rw [if_pos (by omega)] at e
    rw [e] at fin
    rw [mL_labels_171, if_pos (show iI u < 0 by rw [iI_zero, iI_lt (by omega) (by omega) (by omega) (by omega)]; omega), show u = -5 by omega]
    exact fin
  | succ m ih =>
    intro f u hf hu hu2 hu3 e
    obtain ⟨f, rfl⟩ : ∃ g, f = g + 1 := ⟨f - 1, by omega⟩
    by_cases z : u < 0
    · rw [if_pos z] at e
      rw [e] at fin
      rw [mL_labels_171, if_pos (show iI u < 0 by rw [iI_zero, iI_lt (by omega) (by omega) (by omega) (by omega)]; omega), show u = -5 by omega]
      exact fin
    · rw [if_neg z] at e
      have lu := T.1.lab u (by omega) hu3
      rw [mL_labels_171, if_neg (show ¬ iI u < 0 by rw [iI_zero, iI_lt (by omega) (by omega) (by omega) (by omega)]; omega), nd10 T u (by omega) hu3, Option.bind_some]
      by_cases q : G u = g
      · rw [if_pos q] at e
        rw [e] at fin
        rw [if_pos (congrArg iI q)]
        exact fin
      · rw [if_neg q, T.1.faPa g u (by omega) hu3] at e
        have pb := T.1.paBd u (by omega) hu3
        rw [if_neg (show ¬ iI (G u) = iI g by rw [iI_eq (by omega) (by omega) (by omega) (by omega)]; exact q), nd1 T u (by omega) hu3, Option.bind_some]
        exact ih f (Pa F u) (by omega) (by omega) (by omega) (by omega) e
/-- in the subtree, and of this label -/
def Il (F G : Int → Int) (N v g : Int) : Int → Bool := fun y => decide (v ≤ y ∧ y < En F N v ∧ G y = g)
theorem TV.ilAll (T : TV N F G) (v g : Int) (h : 0 ≤ v) (h2 : v < N) : cnt (Il F G N v g) N.toNat 0 = cnt (fun y => decide (G y = g)) (En F N v - v).toNat v := by
  have e := T.en v h h2
  have a := cnt_mid (Il F G N v g) 0 v N h (by omega)
  have b := cnt_mid (Il F G N v g) v (En F N v) N (by omega) (by omega)
  rw [Int.sub_zero, Int.sub_zero, cnt_zero (p := Il F G N v g) v.toNat 0 (fun y g1 g2 => by simp only [Il, decide_eq_false_iff_not]; omega)] at a
  rw [cnt_zero (p := Il F G N v g) (N - En F N v).toNat (En F N v) (fun y g1 g2 => by simp only [Il, decide_eq_false_iff_not]; omega)] at b
  rw [a, b, cnt_cong (q := fun y => decide (G y = g)) (En F N v - v).toNat v (fun y g1 g2 => by
    unfold Il
    by_cases q : G y = g
    · rw [decide_eq_true q, decide_eq_true (show v ≤ y ∧ y < En F N v ∧ G y = g from ⟨g1, by omega, q⟩)]
    · rw [decide_eq_false q, decide_eq_false (fun z => q z.2.2)])]
  omega
theorem labels_95 (T : TR N F G (iI N) d lb) (v w g : Int) (h : 0 ≤ v) (h2 : v < N) (h3 : 0 ≤ w) (h4 : w < N) (hg : 97 ≤ g) (hg2 : g ≤ 122) : ∀ (m f : Nat) (x : Int), m < f → 0 ≤ x → x + m = N → mL_labels_95 f (iI N) d lb (iI v) (iI w) (iI g) (iI (cnt (fun y => decide (G y = g)) (En F N v - v).toNat v)) (iI (cnt (Il F G N v g) x.toNat 0)) (iI (cnt (Eq2 F G N v) x.toNat 0)) (iI x) = some (iI 1) := by
  have hN := T.1.nn
  have ev := T.1.en v h h2
  intro m
  induction m with
  | zero =>
    intro f x hf hx hm
    obtain ⟨f, rfl⟩ : ∃ g, f = g + 1 := ⟨f - 1, by omega⟩
    have e : x = N := by omega
    have pb := T.1.paBd v h h2
    rw [mL_labels_95, e]
    unfold mX4_size mX3_count
    rw [if_pos (show iI N ≤ iI N by rw [iI_le (by omega) (by omega) (by omega) (by omega)]; omega), nd1 T v h h2, Option.bind_some, T.1.ilAll v g h h2]
    exact labels_171 T v w g h h2 h3 h4 hg hg2 N.toNat FU (Pa F v) (by rw [FU_big]; omega) (by omega) (by omega) (by omega) (T.1.faPa g v h h2)
  | succ m ih =>
    intro f x hf hx hm
    obtain ⟨f, rfl⟩ : ∃ g, f = g + 1 := ⟨f - 1, by omega⟩
    have lx := T.1.lab x hx (by omega)
    have r := ih f (x + 1) (by omega) (by omega) (by omega)
    have s1 := cnt_add (Il F G N v g) x.toNat 1 0
    have s2 := cnt_add (Eq2 F G N v) x.toNat 1 0
    rw [show x.toNat + 1 = (x + 1).toNat by omega, show (0 : Int) + (x.toNat : Int) = x by omega] at s1 s2
    have t : ∀ b : Int, cnt (Il F G N v g) 1 x = b → mL_labels_142 (mL_labels_95 f) (iI N) d lb (iI v) (iI w) (iI g) (iI (cnt (fun y => decide (G y = g)) (En F N v - v).toNat v)) (iI (cnt (Eq2 F G N v) x.toNat 0)) (iI x) (iI b) (iI (cnt (Il F G N v g) x.toNat 0)) = some (iI 1) := by
      intro b hb
      have s3 : cnt (Eq2 F G N v) 1 x = if Eq2 F G N v x = true then 1 else 0 := by
        rw [show (1 : Nat) = 0 + 1 from rfl, cnt, cnt, Int.add_zero]
      unfold mL_labels_142
      rw [aeOf T v x h h2 hx (by omega), Option.bind_some, iI_add, iI_add, iI_add, ← hb, ← s1, ← s3, ← s2]
      exact r
    have one : ∀ q : Prop, ∀ _ : Decidable q, (Il F G N v g x = true ↔ q) → cnt (Il F G N v g) 1 x = if q then 1 else 0 := by
      intro q _ hq
      rw [show (1 : Nat) = 0 + 1 from rfl, cnt, cnt, Int.add_zero]
      by_cases z : q
      · rw [if_pos z, if_pos (hq.mpr z)]
      · rw [if_neg z, if_neg (fun y => z (hq.mp y))]
    have no : ¬ (v ≤ x ∧ x < En F N v ∧ G x = g) → mL_labels_141 (mL_labels_95 f) (iI N) d lb (iI v) (iI w) (iI g) (iI (cnt (fun y => decide (G y = g)) (En F N v - v).toNat v)) (iI (cnt (Eq2 F G N v) x.toNat 0)) (iI x) (iI (cnt (Il F G N v g) x.toNat 0)) = some (iI 1) := by
      intro q
      unfold mL_labels_141
      exact t 0 (by rw [one _ inferInstance (show Il F G N v g x = true ↔ (v ≤ x ∧ x < En F N v ∧ G x = g) by simp [Il]), if_neg q])
    rw [mL_labels_95]
    unfold mX4_size mX3_count
    rw [if_neg (show ¬ iI N ≤ iI x by rw [iI_le (by omega) (by omega) (by omega) (by omega)]; omega)]
    by_cases a : x < v
    · rw [if_pos (show iI x < iI v by rw [iI_lt (by omega) (by omega) (by omega) (by omega)]; exact a)]
      exact no (by omega)
    · rw [if_neg (show ¬ iI x < iI v by rw [iI_lt (by omega) (by omega) (by omega) (by omega)]; exact a), nd3 T v h h2, Option.bind_some, iI_add]
      by_cases b : v + (En F N v - v) ≤ x
      · rw [if_pos (show iI (v + (En F N v - v)) ≤ iI x by rw [iI_le (by omega) (by omega) (by omega) (by omega)]; exact b)]
        exact no (by omega)
      · rw [if_neg (show ¬ iI (v + (En F N v - v)) ≤ iI x by rw [iI_le (by omega) (by omega) (by omega) (by omega)]; exact b), nd10 T x hx (by omega), Option.bind_some]
        by_cases c : G x = g
        · rw [if_pos (congrArg iI c)]
          exact t 1 (by rw [one _ inferInstance (show Il F G N v g x = true ↔ (v ≤ x ∧ x < En F N v ∧ G x = g) by simp [Il]), if_pos (show v ≤ x ∧ x < En F N v ∧ G x = g by omega)])
        · rw [if_neg (show ¬ iI (G x) = iI g by rw [iI_eq (by omega) (by omega) (by omega) (by omega)]; exact c)]
          exact no (fun q => c q.2.2)
theorem labels_25 (T : TR N F G (iI N) d lb) (v w g : Int) (h : 0 ≤ v) (h2 : v < N) (h3 : 0 ≤ w) (h4 : w < N) (hg : 97 ≤ g) (hg2 : g ≤ 122) : ∀ (m f : Nat) (k last : Int), m < f → 0 ≤ k → k + m = cnt (fun y => decide (G y = g)) (En F N v - v).toNat v → (last = if k = 0 then v - 1 else kth (fun y => decide (G y = g)) (-5) (En F N v - v).toNat v (k - 1)) → mL_labels_25 f (iI N) d lb (iI v) (iI w) (iI g) (iI (cnt (fun y => decide (G y = g)) (En F N v - v).toNat v)) (iI last) (iI k) = some (iI 1) := by
  have hN := T.1.nn
  have ev := T.1.en v h h2
  have cb := cnt_bd (fun y => decide (G y = g)) (En F N v - v).toNat v
  intro m
  induction m with
  | zero =>
    intro f k last hf hk hm hl
    obtain ⟨f, rfl⟩ : ∃ g, f = g + 1 := ⟨f - 1, by omega⟩
    rw [mL_labels_25, if_pos (show iI (cnt (fun y => decide (G y = g)) (En F N v - v).toNat v) ≤ iI k by rw [iI_le (by omega) (by omega) (by omega) (by omega)]; omega)]
    exact labels_95 T v w g h h2 h3 h4 hg hg2 N.toNat FU 0 (by rw [FU_big]; omega) (Int.le_refl _) (by omega)
  | succ m ih =>
    intro f k last hf hk hm hl
    obtain ⟨f, rfl⟩ : ∃ g, f = g + 1 := ⟨f - 1, by omega⟩
    obtain ⟨a1, a2, a3, a4⟩ := kth_full (fun y => decide (G y = g)) (-5) (En F N v - v).toNat v k hk (by omega)
    have lt : last < kth (fun y => decide (G y = g)) (-5) (En F N v - v).toNat v k ∧ v - 1 ≤ last := by
      rw [hl]
      by_cases z : k = 0
      · rw [if_pos z]; omega
      · have q := kth_lt (fun y => decide (G y = g)) (-5) (En F N v - v).toNat v (k - 1) (by omega) (by omega)
        have q2 := kth_full (fun y => decide (G y = g)) (-5) (En F N v - v).toNat v (k - 1) (by omega) (by omega)
        rw [show k - 1 + 1 = k by omega] at q
        rw [if_neg z]
        omega
    have nxt : ∀ y, kth (fun y => decide (G y = g)) (-5) (En F N v - v).toNat v k = y → y = if k + 1 = 0 then v - 1 else kth (fun y => decide (G y = g)) (-5) (En F N v - v).toNat v (k + 1 - 1) := fun y hy => by
      rw [if_neg (by omega), show k + 1 - 1 = k by omega, hy]
    rw [mL_labels_25, if_neg (show ¬ iI (cnt (fun y => decide (G y = g)) (En F N v - v).toNat v) ≤ iI k by rw [iI_le (by omega) (by omega) (by omega) (by omega)]; omega), slOf T v g k h h2 hg hg2 hk (by omega), Option.bind_some]
    generalize kth (fun y => decide (G y = g)) (-5) (En F N v - v).toNat v k = y at a1 a2 a3 a4 lt nxt ⊢
    have gy : G y = g := by simpa using a3
    rw [if_neg (show ¬ iI y ≤ iI last by rw [iI_le (by omega) (by omega) (by omega) (by omega)]; omega), nd3 T v h h2, Option.bind_some, iI_add, if_neg (show ¬ iI (v + (En F N v - v)) ≤ iI y by rw [iI_le (by omega) (by omega) (by omega) (by omega)]; omega), nd10 T y (by omega) (by omega), Option.bind_some, if_pos (congrArg iI gy), iI_add]
    exact ih f (k + 1) y (by omega) (by omega) (by omega) (nxt y rfl)
theorem labels_ok (T : TR N F G (iI N) d lb) (v w : Int) (h : 0 ≤ v) (h2 : v < N) (h3 : 0 ≤ w) (h4 : w < N) : mL_labels (iI N) d lb (iI v) (iI w) = some (iI 1) := by
  have hN := T.1.nn
  have lw := T.1.lab w h3 h4
  have ev := T.1.en v h h2
  have cb := cnt_bd (fun y => decide (G y = G w)) (En F N v - v).toNat v
  unfold mL_labels
  rw [nd10 T w h3 h4, Option.bind_some, c16C (by omega) (by omega), lbOf T v (G w) h h2 lw.1 lw.2, Option.bind_some, iI_sub]
  exact labels_25 T v w (G w) h h2 h3 h4 lw.1 lw.2 (cnt (fun y => decide (G y = G w)) (En F N v - v).toNat v).toNat FU 0 (v - 1) (by rw [FU_big]; omega) (Int.le_refl _) (by omega) (by rw [if_pos rfl])
end LABELS
