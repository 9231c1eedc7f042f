/-! 51: two nodes: ways, ancestors, levels, leaves (the law's two) -/
theorem cnt_none {p : Int → Bool} : ∀ (k : Nat) (x : Int), cnt p k x = 0 → ∀ y, x ≤ y → y < x + k → p y = false
  | 0, x, _, y, h1, h2 => absurd h2 (by omega)
  | k + 1, x, h, y, h1, h2 => by
    by_cases c : p x = true
    · rw [cnt_yes c] at h
      have := cnt_bd p k (x + 1)
      omega
    · rw [cnt_no c] at h
      by_cases e : y = x
      · rw [e]; exact Bool.eq_false_iff.mpr c
      · exact cnt_none k (x + 1) h y (by omega) (by omega)
/-- what stands j-th has just j before it -/
theorem kth_inj (p : Int → Bool) (e : Int) (k : Nat) (x j y : Int) (hj : 0 ≤ j) (he : e < x) (hy : x ≤ y) (h : kth p e k x j = y) : j < cnt p k x ∧ y < x + k ∧ p y = true ∧ cnt p (y - x).toNat x = j := by
  by_cases c : j < cnt p k x
  · have f := kth_full p e k x j hj c
    rw [h] at f
    exact ⟨c, f.2.1, f.2.2.1, f.2.2.2⟩
  · have := kth_past p e k x j (by omega)
    omega
section TWO
variable {N : Int} {F G : Int → Int} {d lb : Nat → Int32}
theorem TV.lvIn (T : TV N F G) (v : Int) (h : 0 ≤ v) (h2 : v < N) : cnt (Lv F (F v)) N.toNat 0 = cnt (Lv F (F v)) v.toNat 0 + 1 + cnt (Lv F (F v)) (N - (v + 1)).toNat (v + 1) := by
  have a := cnt_mid (Lv F (F v)) 0 v N h (by omega)
  have b := cnt_mid (Lv F (F v)) v (v + 1) N (by omega) (by omega)
  rw [cnt_one (by simp [Lv])] at b
  rw [Int.sub_zero, Int.sub_zero] at a
  omega
theorem TV.lvAt (T : TV N F G) (v : Int) (h : 0 ≤ v) (h2 : v < N) : kth (Lv F (F v)) (-5) N.toNat 0 (cnt (Lv F (F v)) v.toNat 0) = v :=
  kth_at (Lv F (F v)) (-5) v.toNat N.toNat 0 v (by omega) (by omega) (by simp [Lv])
theorem TV.lvPrev (T : TV N F G) (v : Int) (h : 0 ≤ v) (h2 : v < N) : (if Up F (v - 1) (F v) < 0 then -5 else Up F (v - 1) (F v)) = if 0 < cnt (Lv F (F v)) v.toNat 0 then kth (Lv F (F v)) (-5) N.toNat 0 (cnt (Lv F (F v)) v.toNat 0 - 1) else -5 := by
  have tot := T.lvIn v h h2
  have b0 := cnt_bd (Lv F (F v)) v.toNat 0
  have b1 := cnt_bd (Lv F (F v)) (N - (v + 1)).toNat (v + 1)
  by_cases c : 0 < cnt (Lv F (F v)) v.toNat 0
  · rw [if_pos c]
    obtain ⟨g1, g2, g3, g4⟩ := kth_full (Lv F (F v)) (-5) N.toNat 0 (cnt (Lv F (F v)) v.toNat 0 - 1) (by omega) (by omega)
    generalize kth (Lv F (F v)) (-5) N.toNat 0 (cnt (Lv F (F v)) v.toNat 0 - 1) = y at g1 g2 g3 g4 ⊢
    rw [Int.sub_zero] at g4
    have lt : y < v := by
      rcases Int.lt_trichotomy y v with q | q | q
      · exact q
      · rw [q] at g4; omega
      · have m := cnt_mid (Lv F (F v)) 0 v y h (by omega)
        have m2 := cnt_bd (Lv F (F v)) (y - v).toNat v
        rw [Int.sub_zero, Int.sub_zero] at m
        omega
    have m := cnt_mid (Lv F (F v)) 0 y v g1 (by omega)
    have m2 := cnt_mid (Lv F (F v)) y (y + 1) v (by omega) (by omega)
    rw [cnt_one g3] at m2
    rw [Int.sub_zero, Int.sub_zero] at m
    have z : cnt (Lv F (F v)) (v - (y + 1)).toNat (y + 1) = 0 := by omega
    have u : Up F (v - 1) (F v) = y := T.upEq (v - 1) (F v) y g1 (by omega) (by simpa [Lv] using g3) (fun t t1 t2 => by have := cnt_none _ _ z t (by omega) (by omega); simpa [Lv] using this)
    rw [u, if_neg (by omega)]
  · rw [if_neg c]
    have z : cnt (Lv F (F v)) v.toNat 0 = 0 := by omega
    have u : Up F (v - 1) (F v) = -1 := dwn_eq _ _ _ _ (by omega) (by omega) (fun t t1 t2 => by have := cnt_none _ _ z t (by omega) (by omega); exact this) (fun q => absurd q (by omega))
    rw [u, if_pos (by omega)]
theorem TV.lvNext (T : TV N F G) (v : Int) (h : 0 ≤ v) (h2 : v < N) : orElse N (fst (fun y => decide (F y = F v)) (N - v - 1).toNat (v + 1)) (-5) = if cnt (Lv F (F v)) v.toNat 0 + 1 < cnt (Lv F (F v)) N.toNat 0 then kth (Lv F (F v)) (-5) N.toNat 0 (cnt (Lv F (F v)) v.toNat 0 + 1) else -5 := by
  have tot := T.lvIn v h h2
  have b0 := cnt_bd (Lv F (F v)) v.toNat 0
  have b1 := cnt_bd (Lv F (F v)) (N - (v + 1)).toNat (v + 1)
  have pv : Lv F (F v) v = true := by simp [Lv]
  by_cases c : cnt (Lv F (F v)) v.toNat 0 + 1 < cnt (Lv F (F v)) N.toNat 0
  · rw [if_pos c]
    obtain ⟨g1, g2, g3, g4⟩ := kth_full (Lv F (F v)) (-5) N.toNat 0 (cnt (Lv F (F v)) v.toNat 0 + 1) (by omega) c
    generalize kth (Lv F (F v)) (-5) N.toNat 0 (cnt (Lv F (F v)) v.toNat 0 + 1) = y at g1 g2 g3 g4 ⊢
    rw [Int.sub_zero] at g4
    have lt : v < y := by
      rcases Int.lt_trichotomy y v with q | q | q
      · have m := cnt_mid (Lv F (F v)) 0 y v g1 (by omega)
        have m2 := cnt_bd (Lv F (F v)) (v - y).toNat y
        rw [Int.sub_zero, Int.sub_zero] at m
        omega
      · rw [q] at g4; omega
      · exact q
    have m := cnt_mid (Lv F (F v)) 0 v y h (by omega)
    have m2 := cnt_mid (Lv F (F v)) v (v + 1) y (by omega) (by omega)
    rw [cnt_one pv] at m2
    rw [Int.sub_zero, Int.sub_zero] at m
    have z : cnt (Lv F (F v)) (y - (v + 1)).toNat (v + 1) = 0 := by omega
    have u : fst (fun y => decide (F y = F v)) (N - v - 1).toNat (v + 1) = y := fst_eq _ _ _ _ (by omega) (by omega) (fun t t1 t2 => by have := cnt_none _ _ z t (by omega) (by omega); exact this) (fun _ => g3)
    rw [u, orElse, if_neg (by omega)]
  · rw [if_neg c]
    have z : cnt (Lv F (F v)) (N - (v + 1)).toNat (v + 1) = 0 := by omega
    have u : fst (fun y => decide (F y = F v)) (N - v - 1).toNat (v + 1) = N := fst_eq _ _ _ _ (by omega) (by omega) (fun t t1 t2 => by have := cnt_none _ _ z t (by omega) (by omega); exact this) (fun q => absurd q (by omega))
    rw [u, orElse, if_pos rfl]
theorem two_600 (T : TR N F G (iI N) d lb) (v y : Int) (h : 0 ≤ v) (h2 : v < N) : mL_two_600 (iI N) d lb (iI v) (iI N) (iI (F v)) (iI y) (iI y) = some (iI 1) := by
  have hN := T.1.nn
  have b := T.1.bd v
  have z : cnt (Lv F N) N.toNat 0 = 0 := cnt_zero _ _ (fun t t1 t2 => by have := (T.1.bdx t).2.2 t1; simp only [Lv, decide_eq_false_iff_not]; omega)
  unfold mL_two_600
  rw [if_pos rfl, iI_add, aaOver T v (F v + 1) h h2 (by omega) (by omega), Option.bind_some, if_pos rfl, lvBad1 T, Option.bind_some, if_pos rfl, lvBad2 T, Option.bind_some, if_pos rfl, lvCnt T N (by omega) (by omega), z, Option.bind_some, if_pos e00]
theorem two_571 (T : TR N F G (iI N) d lb) (v y : Int) (h : 0 ≤ v) (h2 : v < N) : mL_two_571 (iI N) d lb (iI v) (iI N) (iI (F v)) (iI (cnt (Lv F (F v)) v.toNat 0)) (iI y) (iI y) = some (iI 1) := by
  have hN := T.1.nn
  have b := T.1.bd v
  have b0 := cnt_bd (Lv F (F v)) v.toNat 0
  have pr := T.1.lvPrev v h h2
  unfold mL_two_571
  rw [if_pos rfl, nb3 T v h h2, pr, Option.bind_some]
  by_cases c : 0 < cnt (Lv F (F v)) v.toNat 0
  · rw [if_neg (show ¬ iI (cnt (Lv F (F v)) v.toNat 0) ≤ 0 by rw [iI_zero, iI_le (by omega) (by omega) (by omega) (by omega)]; omega), if_pos c, iI_sub, lvK T (F v) _ b.1 (by omega) (by omega) (by omega), Option.bind_some]
    exact two_600 T v _ h h2
  · rw [if_pos (show iI (cnt (Lv F (F v)) v.toNat 0) ≤ 0 by rw [iI_zero, iI_le (by omega) (by omega) (by omega) (by omega)]; omega), if_neg c]
    exact two_600 T v _ h h2
theorem two_481 (T : TR N F G (iI N) d lb) (v x : Int) (h : 0 ≤ v) (h2 : v < N) (hx : x = -5 ∨ v < x ∧ x < N) (hl : ∀ y, v < y → y < x → ¬ Lf F y = true) : ∀ (m f : Nat) (k : Int), m < f → v < k → k ≤ 1000 → (x ≤ k ∧ m = 0 ∨ k + m = x) → mL_two_481 f (iI N) d lb (iI v) (iI N) (iI (F v)) (iI (cnt (Lv F (F v)) N.toNat 0)) (iI (cnt (Lv F (F v)) v.toNat 0)) (iI x) (iI 1) (iI k) = some (iI 1) := by
  have hN := T.1.nn
  have b := T.1.bd v
  have b0 := cnt_bd (Lv F (F v)) v.toNat 0
  have tot := T.1.lvIn v h h2
  have b1 := cnt_bd (Lv F (F v)) (N - (v + 1)).toNat (v + 1)
  have nx := T.1.lvNext v h h2
  intro m
  induction m with
  | zero =>
    intro f k hf hk hk3 hm
    obtain ⟨f, rfl⟩ : ∃ g, f = g + 1 := ⟨f - 1, by omega⟩
    have key : mL_two_481 (f + 1) (iI N) d lb (iI v) (iI N) (iI (F v)) (iI (cnt (Lv F (F v)) N.toNat 0)) (iI (cnt (Lv F (F v)) v.toNat 0)) (iI x) (iI 1) (iI k) = mL_two_571 (iI N) d lb (iI v) (iI N) (iI (F v)) (iI (cnt (Lv F (F v)) v.toNat 0)) (iI (if cnt (Lv F (F v)) v.toNat 0 + 1 < cnt (Lv F (F v)) N.toNat 0 then kth (Lv F (F v)) (-5) N.toNat 0 (cnt (Lv F (F v)) v.toNat 0 + 1) else -5)) (iI (if cnt (Lv F (F v)) v.toNat 0 + 1 < cnt (Lv F (F v)) N.toNat 0 then kth (Lv F (F v)) (-5) N.toNat 0 (cnt (Lv F (F v)) v.toNat 0 + 1) else -5)) := by
      rw [mL_two_481, if_pos (show iI x ≤ iI k by rw [iI_le (by omega) (by omega) (by omega) (by omega)]; omega), if_neg e10, if_neg (show ¬ iI (cnt (Lv F (F v)) N.toNat 0) ≤ iI (cnt (Lv F (F v)) v.toNat 0) by rw [iI_le (by omega) (by omega) (by omega) (by omega)]; omega), lvK T (F v) _ b.1 (by omega) (by omega) (by omega), kth_past _ _ _ _ _ (Int.le_refl _), Option.bind_some, if_pos rfl, nb2 T v h h2, nx, Option.bind_some, iI_add]
      by_cases c : cnt (Lv F (F v)) v.toNat 0 + 1 < cnt (Lv F (F v)) N.toNat 0
      · rw [if_neg (show ¬ iI (cnt (Lv F (F v)) N.toNat 0) ≤ iI (cnt (Lv F (F v)) v.toNat 0 + 1) by rw [iI_le (by omega) (by omega) (by omega) (by omega)]; omega), if_pos c, lvK T (F v) _ b.1 (by omega) (by omega) (by omega), Option.bind_some]
      · rw [if_pos (show iI (cnt (Lv F (F v)) N.toNat 0) ≤ iI (cnt (Lv F (F v)) v.toNat 0 + 1) by rw [iI_le (by omega) (by omega) (by omega) (by omega)]; omega), if_neg c]
    rw [key]
    exact two_571 T v _ h h2
  | succ m ih =>
    intro f k hf hk hk3 hm
    obtain ⟨f, rfl⟩ : ∃ g, f = g + 1 := ⟨f - 1, by omega⟩
    have cc := T.1.cc k (by omega) (by omega)
    have c0 := T.1.cc0 k (by omega) (by omega)
    have nl := hl k hk (by omega)
    have cp : Cc F N k ≠ 0 := fun q => nl (c0.2.mp q)
    rw [mL_two_481, if_neg (show ¬ iI x ≤ iI k by rw [iI_le (by omega) (by omega) (by omega) (by omega)]; omega), if_neg e10, nd2 T k (by omega) (by omega), Option.bind_some, if_neg (show ¬ iI (Cc F N k) ≤ 0 by rw [iI_zero, iI_le (by omega) (by omega) (by omega) (by omega)]; omega), iI_add]
    exact ih f (k + 1) (by omega) (by omega) (by omega) (by omega)
theorem two_387 (T : TR N F G (iI N) d lb) (v : Int) (h : 0 ≤ v) (h2 : v < N) : mL_two_387 (iI N) d lb (iI v) (iI N) (iI (F v)) (iI (cnt (Lv F (F v)) N.toNat 0)) (iI (cnt (Lv F (F v)) v.toNat 0)) = some (iI 1) := by
  have hN := T.1.nn
  have en := T.1.en v h h2
  have cc := T.1.cc v h h2
  have c0 := T.1.cc0 v h h2
  obtain ⟨f1, f2, f3, f4⟩ := fst_spec (Lf F) (N - v - 1).toNat (v + 1)
  have four := nb4 T v h h2
  generalize fst (Lf F) (N - v - 1).toNat (v + 1) = x at f1 f2 f3 f4 four
  have lastLf : Lf F (N - 1) = true := by
    have a := T.1.out N (Or.inr (Int.le_refl _))
    have b := (T.1.bd (N - 1)).1
    have : F (N - 1 + 1) ≤ F (N - 1) := by rw [show N - 1 + 1 = N by omega, a]; exact b
    simpa [Lf] using this
  unfold mL_two_387
  rw [four, orElse, Option.bind_some]
  by_cases q : x = N
  · have vN : v = N - 1 := by
      by_cases z : v < N - 1
      · have := f3 (N - 1) (by omega) (by omega)
        rw [lastLf] at this
        cases this
      · omega
    have lv : Lf F v = true := by rw [vN]; exact lastLf
    have ev := c0.1.mp (c0.2.mpr lv)
    rw [if_pos q, if_pos rfl, nd3 T v h h2, Option.bind_some, iI_sub, if_pos (congrArg iI (show En F N v - v = N - v by omega)), nd2 T v h h2, Option.bind_some, c0.2.mpr lv, if_pos e00]
    unfold mL_two_474
    rw [iI_add]
    exact two_481 T v (-5) h h2 (Or.inl rfl) (fun y y1 y2 => by omega) 0 FU (v + 1) (by rw [FU_big]; omega) (by omega) (by omega) (Or.inl ⟨by omega, rfl⟩)
  · have xN : x < N := by omega
    have xl : Lf F x = true := f4 (by omega)
    have cx := (T.1.cc0 x (by omega) xN).2.mpr xl
    have fin : mL_two_469 (iI N) d lb (iI v) (iI N) (iI (F v)) (iI (cnt (Lv F (F v)) N.toNat 0)) (iI (cnt (Lv F (F v)) v.toNat 0)) (iI x) = some (iI 1) := by
      unfold mL_two_469 mL_two_474
      rw [iI_add]
      exact two_481 T v x h h2 (Or.inr ⟨by omega, xN⟩) (fun y y1 y2 => by have := f3 y (by omega) y2; rw [this]; simp) (x - (v + 1)).toNat FU (v + 1) (by rw [FU_big]; omega) (by omega) (by omega) (Or.inr (by omega))
    rw [if_neg q, if_neg (show ¬ iI x = iI (-5) by rw [iI_eq (by omega) (by omega) (by omega) (by omega)]; omega), if_neg (show ¬ iI x ≤ iI v by rw [iI_le (by omega) (by omega) (by omega) (by omega)]; omega), nd2 T x (by omega) xN, Option.bind_some, cx, if_pos e00, nd2 T v h h2, Option.bind_some]
    by_cases z : Cc F N v = 0
    · rw [if_pos (show iI (Cc F N v) = 0 by rw [z]; rfl)]
      exact fin
    · have e1 : En F N v ≠ v + 1 := fun w => z (c0.1.mpr w)
      have lastV : Lf F (En F N v - 1) = true := by
        have a := en.2.2.1 (En F N v - 1) (by omega) (by omega)
        have b := en.2.2.2
        have : F (En F N v - 1 + 1) ≤ F (En F N v - 1) := by rw [show En F N v - 1 + 1 = En F N v by omega]; omega
        simpa [Lf] using this
      have xe : x < En F N v := by
        by_cases w : x < En F N v
        · exact w
        · have := f3 (En F N v - 1) (by omega) (by omega)
          rw [lastV] at this
          cases this
      rw [if_neg (show ¬ iI (Cc F N v) = 0 by rw [iI_zero, iI_eq (by omega) (by omega) (by omega) (by omega)]; exact z), nd3 T v h h2, Option.bind_some, iI_add, if_neg (show ¬ iI (v + (En F N v - v)) ≤ iI x by rw [iI_le (by omega) (by omega) (by omega) (by omega)]; omega)]
      exact fin
theorem two_363 (T : TR N F G (iI N) d lb) (v : Int) (h : 0 ≤ v) (h2 : v < N) : ∀ (m f : Nat) (j : Int), m < f → 0 ≤ j → j + m = cnt (Lv F (F v)) v.toNat 0 → mL_two_363 f (iI N) d lb (iI v) (iI N) (iI (F v)) (iI (cnt (Lv F (F v)) N.toNat 0)) (iI j) = some (iI 1) := by
  have hN := T.1.nn
  have b := T.1.bd v
  have b0 := cnt_bd (Lv F (F v)) v.toNat 0
  have tot := T.1.lvIn v h h2
  have b1 := cnt_bd (Lv F (F v)) (N - (v + 1)).toNat (v + 1)
  intro m
  induction m with
  | zero =>
    intro f j hf hj hm
    obtain ⟨f, rfl⟩ : ∃ g, f = g + 1 := ⟨f - 1, by omega⟩
    have e : j = cnt (Lv F (F v)) v.toNat 0 := by omega
    rw [mL_two_363, lvK T (F v) j b.1 (by omega) hj (by omega), e, T.1.lvAt v h h2, Option.bind_some, if_pos rfl]
    exact two_387 T v h h2
  | succ m ih =>
    intro f j hf hj hm
    obtain ⟨f, rfl⟩ : ∃ g, f = g + 1 := ⟨f - 1, by omega⟩
    have ne : kth (Lv F (F v)) (-5) N.toNat 0 j ≠ v := fun q => by
      have := kth_inj (Lv F (F v)) (-5) N.toNat 0 j v hj (by omega) h q
      rw [Int.sub_zero] at this
      omega
    have kb := kth_bd (Lv F (F v)) (-5) N.toNat 0 j
    rw [mL_two_363, lvK T (F v) j b.1 (by omega) hj (by omega), Option.bind_some, if_neg (show ¬ iI (kth (Lv F (F v)) (-5) N.toNat 0 j) = iI v by rw [iI_eq (by omega) (by omega) (by omega) (by omega)]; exact ne), if_neg (show ¬ iI N ≤ iI j by rw [iI_le (by omega) (by omega) (by omega) (by omega)]; omega), iI_add]
    exact ih f (j + 1) (by omega) (by omega) (by omega)
/-- the parent of an ancestor is the next one up -/
theorem TV.paUp (T : TV N F G) (v e : Int) (h : 0 ≤ v) (h2 : v < N) (he : 0 < e) (he2 : e ≤ F v) : Pa F (Up F v e) = Up F v (e - 1) := by
  obtain ⟨u1, u2, u3, u4⟩ := T.upSpec v e h h2 (by omega) he2
  obtain ⟨r1, r2, r3, r4⟩ := T.upSpec v (e - 1) h h2 (by omega) (by omega)
  have ne : Up F v e ≠ 0 := fun q => by rw [q, T.2.2.1] at u3; omega
  have le : Up F v (e - 1) ≤ Up F v e := by
    by_cases q : Up F v e < Up F v (e - 1)
    · have := u4 _ r2 q; omega
    · omega
  unfold Pa
  rw [if_neg ne, u3]
  exact T.upEq _ _ _ r1 le r3 (fun y g1 g2 => by have := r4 y (by omega) g2; omega)
theorem two_309 (T : TR N F G (iI N) d lb) (v : Int) (h : 0 ≤ v) (h2 : v < N) : ∀ (m f : Nat) (e y : Int), m < f → e + 1 = m → e ≤ F v → (0 ≤ e → y = Up F v e) → mL_two_309 f (iI N) d lb (iI v) (iI N) (iI y) (iI e) = some (iI 1) := by
  have hN := T.1.nn
  have b := T.1.bd v
  intro m
  induction m with
  | zero =>
    intro f e y hf he hv hy
    obtain ⟨f, rfl⟩ : ∃ g, f = g + 1 := ⟨f - 1, by omega⟩
    rw [mL_two_309, if_pos (show iI e < 0 by rw [iI_zero, iI_lt (by omega) (by omega) (by omega) (by omega)]; omega), nd0 T v h h2, Option.bind_some, lvCnt T (F v) b.1 (by omega), Option.bind_some]
    have b0 := cnt_bd (Lv F (F v)) v.toNat 0
    exact two_363 T v h h2 (cnt (Lv F (F v)) v.toNat 0).toNat FU 0 (by rw [FU_big]; omega) (by omega) (by omega)
  | succ m ih =>
    intro f e y hf he hv hy
    obtain ⟨f, rfl⟩ : ∃ g, f = g + 1 := ⟨f - 1, by omega⟩
    have ey := hy (by omega)
    obtain ⟨u1, u2, u3, u4⟩ := T.1.upSpec v e h h2 (by omega) hv
    rw [mL_two_309, if_neg (show ¬ iI e < 0 by rw [iI_zero, iI_lt (by omega) (by omega) (by omega) (by omega)]; omega), aaOf T v e h h2 (by omega) hv, ey, Option.bind_some, if_pos rfl, nd1 T (Up F v e) u1 (by omega), Option.bind_some, iI_add, show e + -1 = e - 1 by omega]
    exact ih f (e - 1) _ (by omega) (by omega) (by omega) (fun q => T.1.paUp v e h h2 (by omega) hv)
/-- the way, from its turn on and up to its turn -/
theorem TV.wyIn (T : TV N F G) (v w k : Int) (h : 0 ≤ v) (h2 : v < N) (h3 : 0 ≤ w) (h4 : w < N) (hk : 0 ≤ k) (hk2 : k ≤ Ws F v w) : 0 ≤ Wy F v w k ∧ Wy F v w k < N ∧ (k ≤ F v - F (Cq F v w) → Wy F v w k = Up F v (F v - k)) ∧ (F v - F (Cq F v w) ≤ k → Wy F v w k = Up F w (F (Cq F v w) + k - (F v - F (Cq F v w)))) := by
  have cq := T.cq v w h h2 h3 h4
  have bc := T.bd (Cq F v w)
  unfold Ws at hk2
  unfold Wy
  by_cases c : F v - F (Cq F v w) < k
  · rw [if_pos c]
    have u := T.upSpec w (F (Cq F v w) + k - (F v - F (Cq F v w))) h3 h4 (by omega) (by omega)
    exact ⟨u.1, by omega, fun q => absurd q (by omega), fun _ => rfl⟩
  · rw [if_neg c]
    have u := T.upSpec v (F v - k) h h2 (by omega) (by omega)
    refine ⟨u.1, by omega, fun _ => rfl, fun q => ?_⟩
    rw [show F v - k = F (Cq F v w) by omega, show F (Cq F v w) + k - (F v - F (Cq F v w)) = F (Cq F v w) by omega, cq.2.2.2.2.2.1, cq.2.2.2.2.2.2.1]
theorem TV.wyBack (T : TV N F G) (v w k : Int) (h : 0 ≤ v) (h2 : v < N) (h3 : 0 ≤ w) (h4 : w < N) (hk : 0 ≤ k) (hk2 : k ≤ Ws F v w) : Wy F w v (Ws F v w - k) = Wy F v w k := by
  have a := T.wyIn v w k h h2 h3 h4 hk hk2
  have ws : Ws F w v = Ws F v w := by unfold Ws; rw [Cq_comm]; omega
  have b := T.wyIn w v (Ws F v w - k) h3 h4 h h2 (by omega) (by omega)
  rw [Cq_comm] at b
  have e : Ws F v w = F v - F (Cq F v w) + F w - F (Cq F v w) := rfl
  by_cases c : k ≤ F v - F (Cq F v w)
  · rw [a.2.2.1 c, b.2.2.2 (by omega)]
    congr 1
    omega
  · rw [a.2.2.2 (by omega), b.2.2.1 (by omega)]
    congr 1
    omega
theorem TV.wyPa (T : TV N F G) (v w k : Int) (h : 0 ≤ v) (h2 : v < N) (h3 : 0 ≤ w) (h4 : w < N) (hk : 1 ≤ k) (hk2 : k ≤ Ws F v w) : Pa F (Wy F v w (k - 1)) = Wy F v w k ∨ Pa F (Wy F v w k) = Wy F v w (k - 1) := by
  have a := T.wyIn v w k h h2 h3 h4 (by omega) hk2
  have b := T.wyIn v w (k - 1) h h2 h3 h4 (by omega) (by omega)
  have cq := T.cq v w h h2 h3 h4
  have bc := T.bd (Cq F v w)
  have e : Ws F v w = F v - F (Cq F v w) + F w - F (Cq F v w) := rfl
  by_cases c : k ≤ F v - F (Cq F v w)
  · left
    rw [a.2.2.1 c, b.2.2.1 (by omega), T.paUp v (F v - (k - 1)) h h2 (by omega) (by omega)]
    congr 1
    omega
  · right
    rw [a.2.2.2 (by omega), b.2.2.2 (by omega), T.paUp w _ h3 h4 (by omega) (by omega)]
    congr 1
    omega
theorem two_215 (T : TR N F G (iI N) d lb) (v w : Int) (h : 0 ≤ v) (h2 : v < N) (h3 : 0 ≤ w) (h4 : w < N) : ∀ (m f : Nat) (k : Int), m < f → 1 ≤ k → k + m = Ws F v w + 1 → mL_two_215 f (iI N) d lb (iI v) (iI w) (iI N) (iI (F v - F (Cq F v w))) (iI (F w - F (Cq F v w))) (iI k) = some (iI 1) := by
  have hN := T.1.nn
  have bv := T.1.bd v
  have bw := T.1.bd w
  have cq := T.1.cq v w h h2 h3 h4
  have bc := T.1.bd (Cq F v w)
  have e : Ws F v w = F v - F (Cq F v w) + F w - F (Cq F v w) := rfl
  have ws : Ws F w v = Ws F v w := by unfold Ws; rw [Cq_comm]; omega
  intro m
  induction m with
  | zero =>
    intro f k hf hk hm
    obtain ⟨f, rfl⟩ : ∃ g, f = g + 1 := ⟨f - 1, by omega⟩
    rw [mL_two_215, iI_add, if_pos (show iI (F v - F (Cq F v w) + (F w - F (Cq F v w))) < iI k by rw [iI_lt (by omega) (by omega) (by omega) (by omega)]; omega), nd0 T v h h2, Option.bind_some]
    exact two_309 T v h h2 (F v + 1).toNat FU (F v) v (by rw [FU_big]; omega) (by omega) (Int.le_refl _) (fun _ => (T.1.upSelf v h).symm)
  | succ m ih =>
    intro f k hf hk hm
    obtain ⟨f, rfl⟩ : ∃ g, f = g + 1 := ⟨f - 1, by omega⟩
    have a := T.1.wyIn v w k h h2 h3 h4 (by omega) (by omega)
    have b := T.1.wyIn v w (k - 1) h h2 h3 h4 (by omega) (by omega)
    have bk := T.1.wyBack v w k h h2 h3 h4 (by omega) (by omega)
    have pp := T.1.wyPa v w k h h2 h3 h4 hk (by omega)
    have go : mL_two_271 (mL_two_215 f) (iI N) d lb (iI v) (iI w) (iI N) (iI (F v - F (Cq F v w))) (iI (F w - F (Cq F v w))) (iI k) (iI (Wy F v w k)) = some (iI 1) := by
      unfold mL_two_271
      rw [iI_add, iI_sub, show F v - F (Cq F v w) + (F w - F (Cq F v w)) - k = Ws F v w - k by omega, wyAll T w v (Ws F v w - k) h3 h4 h h2 (by omega) (by omega), if_neg (by omega), if_pos (show Ws F v w - k ≤ Ws F w v by omega), bk, Option.bind_some, if_pos rfl, iI_add]
      exact ih f (k + 1) (by omega) (by omega) (by omega)
    rw [mL_two_215, iI_add, if_neg (show ¬ iI (F v - F (Cq F v w) + (F w - F (Cq F v w))) < iI k by rw [iI_lt (by omega) (by omega) (by omega) (by omega)]; omega), iI_sub, wyAll T v w (k - 1) h h2 h3 h4 (by omega) (by omega), if_neg (show ¬ k - 1 = -1 by omega), if_pos (show k - 1 ≤ Ws F v w by omega), Option.bind_some, wyAll T v w k h h2 h3 h4 (by omega) (by omega), if_neg (show ¬ k = -1 by omega), if_pos (show k ≤ Ws F v w by omega), Option.bind_some, nd1 T (Wy F v w (k - 1)) b.1 b.2.1, Option.bind_some, nd1 T (Wy F v w k) a.1 a.2.1, Option.bind_some]
    by_cases q : iI (Pa F (Wy F v w (k - 1))) = iI (Wy F v w k)
    · rw [if_pos q]
      exact go
    · rcases pp with g | g
      · exact absurd (by rw [g]) q
      · rw [if_neg q, if_pos (congrArg iI g)]
        exact go
theorem two_ok (T : TR N F G (iI N) d lb) (v w : Int) (h : 0 ≤ v) (h2 : v < N) (h3 : 0 ≤ w) (h4 : w < N) : mL_two (iI N) d lb (iI v) (iI w) = some (iI 1) := by
  have hN := T.1.nn
  have bv := T.1.bd v
  have bw := T.1.bd w
  have cq := T.1.cq v w h h2 h3 h4
  have bc := T.1.bd (Cq F v w)
  have e : Ws F v w = F v - F (Cq F v w) + F w - F (Cq F v w) := rfl
  have w0 := T.1.wyIn v w 0 h h2 h3 h4 (by omega) (by omega)
  have wu := T.1.wyIn v w (F v - F (Cq F v w)) h h2 h3 h4 (by omega) (by omega)
  have wt := T.1.wyIn v w (Ws F v w) h h2 h3 h4 (by omega) (by omega)
  have e0 : Wy F v w 0 = v := by rw [w0.2.2.1 (by omega), Int.sub_zero]; exact T.1.upSelf v h
  have eu : Wy F v w (F v - F (Cq F v w)) = Cq F v w := by rw [wu.2.2.1 (by omega), show F v - (F v - F (Cq F v w)) = F (Cq F v w) by omega]; exact cq.2.2.2.2.2.1
  have et : Wy F v w (Ws F v w) = w := by rw [wt.2.2.2 (by omega), show F (Cq F v w) + Ws F v w - (F v - F (Cq F v w)) = F w by omega]; exact T.1.upSelf w h3
  have go : mL_two_212 (iI N) d lb (iI v) (iI w) (iI N) (iI (F v - F (Cq F v w))) (iI (F w - F (Cq F v w))) = some (iI 1) := by
    unfold mL_two_212
    exact two_215 T v w h h2 h3 h4 (Ws F v w).toNat FU 1 (by rw [FU_big]; omega) (by omega) (by omega)
  have cN : Cq F v w < N := by omega
  unfold mL_two mX4_size mX3_count
  rw [cmOf T v w h h2 h3 h4, Option.bind_some, nd0 T v h h2, Option.bind_some, nd0 T (Cq F v w) cq.1 cN, Option.bind_some, nd0 T w h3 h4, Option.bind_some, Option.bind_some, cmOf T w v h3 h4 h h2, Cq_comm, Option.bind_some, if_pos rfl, Option.bind_some, aaOf T v _ h h2 bc.1 cq.2.2.2.1, cq.2.2.2.2.2.1, Option.bind_some, if_pos rfl, Option.bind_some, aaOf T w _ h3 h4 bc.1 cq.2.2.2.2.1, cq.2.2.2.2.2.2.1, Option.bind_some, if_pos rfl]
  simp only [iI_sub, iI_add]
  rw [wyAll T v w (-1) h h2 h3 h4 (by omega) (by omega), if_pos rfl, Option.bind_some, if_pos (congrArg iI (show Ws F v w = F v - F (Cq F v w) + (F w - F (Cq F v w)) by omega)), wyAll T v w (F v - F (Cq F v w)) h h2 h3 h4 (by omega) (by omega), if_neg (by omega), if_pos (show F v - F (Cq F v w) ≤ Ws F v w by omega), eu, Option.bind_some, if_pos rfl, wyAll T v w 0 h h2 h3 h4 (by omega) (by omega), if_neg (by omega), if_pos (show 0 ≤ Ws F v w by omega), e0, Option.bind_some, if_pos rfl, show F v - F (Cq F v w) + (F w - F (Cq F v w)) = Ws F v w by omega, wyAll T v w (Ws F v w) h h2 h3 h4 (by omega) (by omega), if_neg (by omega), if_pos (Int.le_refl _), et, Option.bind_some, if_pos rfl, wyAll T v w (Ws F v w + 1) h h2 h3 h4 (by omega) (by omega), if_neg (by omega), if_neg (by omega), Option.bind_some, if_pos rfl, wyBad T v w h h2 h3 h4, Option.bind_some, if_pos rfl]
  by_cases up : F v - F (Cq F v w) ≤ 0
  · rw [if_pos (show iI (F v - F (Cq F v w)) ≤ 0 by rw [iI_zero, iI_le (by omega) (by omega) (by omega) (by omega)]; exact up)]
    exact go
  · rw [if_neg (show ¬ iI (F v - F (Cq F v w)) ≤ 0 by rw [iI_zero, iI_le (by omega) (by omega) (by omega) (by omega)]; exact up)]
    by_cases dn : F w - F (Cq F v w) ≤ 0
    · rw [if_pos (show iI (F w - F (Cq F v w)) ≤ 0 by rw [iI_zero, iI_le (by omega) (by omega) (by omega) (by omega)]; exact dn)]
      exact go
    · have a1 := T.1.wyIn v w (F v - F (Cq F v w) - 1) h h2 h3 h4 (by omega) (by omega)
      have a2 := T.1.wyIn v w (F v - F (Cq F v w) + 1) h h2 h3 h4 (by omega) (by omega)
      have ne : Wy F v w (F v - F (Cq F v w) - 1) ≠ Wy F v w (F v - F (Cq F v w) + 1) := by
        rw [a1.2.2.1 (by omega), a2.2.2.2 (by omega), show F v - (F v - F (Cq F v w) - 1) = F (Cq F v w) + 1 by omega, show F (Cq F v w) + (F v - F (Cq F v w) + 1) - (F v - F (Cq F v w)) = F (Cq F v w) + 1 by omega]
        intro q
        obtain ⟨p1, p2, p3, p4⟩ := T.1.upSpec v (F (Cq F v w) + 1) h h2 (by omega) (by omega)
        obtain ⟨r1, r2, r3, r4⟩ := T.1.upSpec w (F (Cq F v w) + 1) h3 h4 (by omega) (by omega)
        rw [← q] at r2 r4
        refine cq.2.2.2.2.2.2.2 (Up F v (F (Cq F v w) + 1)) ?_ p2 r2 ⟨fun y g1 g2 => by have := p4 y g2 g1; omega, fun y g1 g2 => by have := r4 y g2 g1; omega⟩
        by_cases z : Cq F v w < Up F v (F (Cq F v w) + 1)
        · exact z
        · by_cases z2 : Up F v (F (Cq F v w) + 1) = Cq F v w
          · rw [z2] at p3; omega
          · have := p4 (Cq F v w) (by omega) (by omega); omega
      rw [if_neg (show ¬ iI (F w - F (Cq F v w)) ≤ 0 by rw [iI_zero, iI_le (by omega) (by omega) (by omega) (by omega)]; exact dn), wyAll T v w (F v - F (Cq F v w) - 1) h h2 h3 h4 (by omega) (by omega), if_neg (by omega), if_pos (by omega), Option.bind_some, wyAll T v w (F v - F (Cq F v w) + 1) h h2 h3 h4 (by omega) (by omega), if_neg (by omega), if_pos (by omega), Option.bind_some, if_neg (show ¬ iI (Wy F v w (F v - F (Cq F v w) - 1)) = iI (Wy F v w (F v - F (Cq F v w) + 1)) by rw [iI_eq (by omega) (by omega) (by omega) (by omega)]; exact ne)]
      exact go
end TWO
