/-! 51: two nodes: ways, ancestors, levels, leaves (the law's two) -/
theorem cnt_none {p : Int → Bool} : ∀ (k : Nat) (x : Int), cnt p k x = 0 → ∀ y, x ≤ y → y < x + k → p y = false
  | 0, x, _, y, h1, h2 => absurd h2 (by omega)
  | k + 1, x, h, y, h1, h2 => by
    by_cases c : p x = true
    · rw [cnt_yes c] at h
      have := cnt_bd p k (x + 1)
      omega
    · rw [cnt_no c] at h
      by_cases e : y = x
      · rw [e]; exact Bool.eq_false_iff.mpr c
      · exact cnt_none k (x + 1) h y (by omega) (by omega)
/-- what stands j-th has just j before it -/
theorem kth_inj (p : Int → Bool) (e : Int) (k : Nat) (x j y : Int) (hj : 0 ≤ j) (he : e < x) (hy : x ≤ y) (h : kth p e k x j = y) : j < cnt p k x ∧ y < x + k ∧ p y = true ∧ cnt p (y - x).toNat x = j := by
  by_cases c : j < cnt p k x
  · have f := kth_full p e k x j hj c
    rw [h] at f
    exact ⟨c, f.2.1, f.2.2.1, f.2.2.2⟩
  · have := kth_past p e k x j (by omega)
    omega
section TWO
variable {N : Int} {F G : Int → Int} {d lb : Nat → Int32}
theorem TV.lvIn (T : TV N F G) (v : Int) (h : 0 ≤ v) (h2 : v < N) : cnt (Lv F (F v)) N.toNat 0 = cnt (Lv F (F v)) v.toNat 0 + 1 + cnt (Lv F (F v)) (N - (v + 1)).toNat (v + 1) := by
  have a := cnt_mid (Lv F (F v)) 0 v N h (by omega)
  have b := cnt_mid (Lv F (F v)) v (v + 1) N (by omega) (by omega)
  rw [cnt_one (by simp [Lv])] at b
  rw [Int.sub_zero, Int.sub_zero] at a
  omega
theorem TV.lvAt (T : TV N F G) (v : Int) (h : 0 ≤ v) (h2 : v < N) : kth (Lv F (F v)) (-5) N.toNat 0 (cnt (Lv F (F v)) v.toNat 0) = v :=
  kth_at (Lv F (F v)) (-5) v.toNat N.toNat 0 v (by omega) (by omega) (by simp [Lv])
theorem TV.lvPrev (T : TV N F G) (v : Int) (h : 0 ≤ v) (h2 : v < N) : (if Up F (v - 1) (F v) < 0 then -5 else Up F (v - 1) (F v)) = if 0 < cnt (Lv F (F v)) v.toNat 0 then kth (Lv F (F v)) (-5) N.toNat 0 (cnt (Lv F (F v)) v.toNat 0 - 1) else -5 := by
  have tot := T.lvIn v h h2
  have b0 := cnt_bd (Lv F (F v)) v.toNat 0
  have b1 := cnt_bd (Lv F (F v)) (N - (v + 1)).toNat (v + 1)
  by_cases c : 0 < cnt (Lv F (F v)) v.toNat 0
  · rw [if_pos c]
    obtain ⟨g1, g2, g3, g4⟩ := kth_full (Lv F (F v)) (-5) N.toNat 0 (cnt (Lv F (F v)) v.toNat 0 - 1) (by omega) (by omega)
    generalize kth (Lv F (F v)) (-5) N.toNat 0 (cnt (Lv F (F v)) v.toNat 0 - 1) = y at g1 g2 g3 g4 ⊢
    rw [Int.sub_zero] at g4
    have lt : y < v := by
      rcases Int.lt_trichotomy y v with q | q | q
      · exact q
      · rw [q] at g4; omega
      · have m := cnt_mid (Lv F (F v)) 0 v y h (by omega)
        have m2 := cnt_bd (Lv F (F v)) (y - v).toNat v
        rw [Int.sub_zero, Int.sub_zero] at m
        omega
    have m := cnt_mid (Lv F (F v)) 0 y v g1 (by omega)
    have m2 := cnt_mid (Lv F (F v)) y (y + 1) v (by omega) (by omega)
    rw [cnt_one g3] at m2
    rw [Int.sub_zero, Int.sub_zero] at m
    have z : cnt (Lv F (F v)) (v - (y + 1)).toNat (y + 1) = 0 := by omega
    have u : Up F (v - 1) (F v) = y := T.upEq (v - 1) (F v) y g1 (by omega) (by simpa [Lv] using g3) (fun t t1 t2 => by have := cnt_none _ _ z t (by omega) (by omega); simpa [Lv] using this)
    rw [u, if_neg (by omega)]
  · rw [if_neg c]
    have z : cnt (Lv F (F v)) v.toNat 0 = 0 := by omega
    have u : Up F (v - 1) (F v) = -1 := dwn_eq _ _ _ _ (by omega) (by omega) (fun t t1 t2 => by have := cnt_none _ _ z t (by omega) (by omega); exact this) (fun q => absurd q (by omega))
    rw [u, if_pos (by omega)]
theorem TV.lvNext (T : TV N F G) (v : Int) (h : 0 ≤ v) (h2 : v < N) : orElse N (fst (fun y => decide (F y = F v)) (N - v - 1).toNat (v + 1)) (-5) = if cnt (Lv F (F v)) v.toNat 0 + 1 < cnt (Lv F (F v)) N.toNat 0 then kth (Lv F (F v)) (-5) N.toNat 0 (cnt (Lv F (F v)) v.toNat 0 + 1) else -5 := by
  have tot := T.lvIn v h h2
  have b0 := cnt_bd (Lv F (F v)) v.toNat 0
  have b1 := cnt_bd (Lv F (F v)) (N - (v + 1)).toNat (v + 1)
  have pv : Lv F (F v) v = true := by simp [Lv]
  by_cases c : cnt (Lv F (F v)) v.toNat 0 + 1 < cnt (Lv F (F v)) N.toNat 0
  · rw [if_pos c]
    obtain ⟨g1, g2, g3, g4⟩ := kth_full (Lv F (F v)) (-5) N.toNat 0 (cnt (Lv F (F v)) v.toNat 0 + 1) (by omega) c
    generalize kth (Lv F (F v)) (-5) N.toNat 0 (cnt (Lv F (F v)) v.toNat 0 + 1) = y at g1 g2 g3 g4 ⊢
    rw [Int.sub_zero] at g4
    have lt : v < y := by
      rcases Int.lt_trichotomy y v with q | q | q
      · have m := cnt_mid (Lv F (F v)) 0 y v g1 (by omega)
        have m2 := cnt_bd (Lv F (F v)) (v - y).toNat y
        rw [Int.sub_zero, Int.sub_zero] at m
        omega
      · rw [q] at g4; omega
      · exact q
    have m := cnt_mid (Lv F (F v)) 0 v y h (by omega)
    have m2 := cnt_mid (Lv F (F v)) v (v + 1) y (by omega) (by omega)
    rw [cnt_one pv] at m2
    rw [Int.sub_zero, Int.sub_zero] at m
    have z : cnt (Lv F (F v)) (y - (v + 1)).toNat (v + 1) = 0 := by omega
    have u : fst (fun y => decide (F y = F v)) (N - v - 1).toNat (v + 1) = y := fst_eq _ _ _ _ (by omega) (by omega) (fun t t1 t2 => by have := cnt_none _ _ z t (by omega) (by omega); exact this) (fun _ => g3)
    rw [u, orElse, if_neg (by omega)]
  · rw [if_neg c]
    have z : cnt (Lv F (F v)) (N - (v + 1)).toNat (v + 1) = 0 := by omega
    have u : fst (fun y => decide (F y = F v)) (N - v - 1).toNat (v + 1) = N := fst_eq _ _ _ _ (by omega) (by omega) (fun t t1 t2 => by have := cnt_none _ _ z t (by omega) (by omega); exact this) (fun q => absurd q (by omega))
    rw [u, orElse, if_pos rfl]
theorem two_600 (T : TR N F G (iI N) d lb) (v y : Int) (h : 0 ≤ v) (h2 : v < N) : mL_two_600 (iI N) d lb (iI v) (iI N) (iI (F v)) (iI y) (iI y) = some (iI 1) := by
  have hN := T.1.nn
  have b := T.1.bd v
  have z : cnt (Lv F N) N.toNat 0 = 0 := cnt_zero _ _ (fun t t1 t2 => by have := (T.1.bdx t).2.2 t1; simp only [Lv, decide_eq_false_iff_not]; omega)
  unfold mL_two_600
  rw [if_pos rfl, iI_add, aaOver T v (F v + 1) h h2 (by omega) (by omega), Option.bind_some, if_pos rfl, lvBad1 T, Option.bind_some, if_pos rfl, lvBad2 T, Option.bind_some, if_pos rfl, lvCnt T N (by omega) (by omega), z, Option.bind_some, if_pos e00]
theorem two_571 (T : TR N F G (iI N) d lb) (v y : Int) (h : 0 ≤ v) (h2 : v < N) : mL_two_571 (iI N) d lb (iI v) (iI N) (iI (F v)) (iI (cnt (Lv F (F v)) v.toNat 0)) (iI y) (iI y) = some (iI 1) := by
  have hN := T.1.nn
  have b := T.1.bd v
  have b0 := cnt_bd (Lv F (F v)) v.toNat 0
  have pr := T.1.lvPrev v h h2
  unfold mL_two_571
  rw [if_pos rfl, nb3 T v h h2, pr, Option.bind_some]
  by_cases c : 0 < cnt (Lv F (F v)) v.toNat 0
  · rw [if_neg (show ¬ iI (cnt (Lv F (F v)) v.toNat 0) ≤ 0 by rw [iI_zero, iI_le (by omega) (by omega) (by omega) (by omega)]; omega), if_pos c, iI_sub, lvK T (F v) _ b.1 (by omega) (by omega) (by omega), Option.bind_some]
    exact two_600 T v _ h h2
  · rw [if_pos (show iI (cnt (Lv F (F v)) v.toNat 0) ≤ 0 by rw [iI_zero, iI_le (by omega) (by omega) (by omega) (by omega)]; omega), if_neg c]
    exact two_600 T v _ h h2
theorem two_481 (T : TR N F G (iI N) d lb) (v x : Int) (h : 0 ≤ v) (h2 : v < N) (hx : x = -5 ∨ v < x ∧ x < N) (hl : ∀ y, v < y → y < x → ¬ Lf F y = true) : ∀ (m f : Nat) (k : Int), m < f → v < k → k ≤ 1000 → (x ≤ k ∧ m = 0 ∨ k + m = x) → mL_two_481 f (iI N) d lb (iI v) (iI N) (iI (F v)) (iI (cnt (Lv F (F v)) N.toNat 0)) (iI (cnt (Lv F (F v)) v.toNat 0)) (iI x) (iI 1) (iI k) = some (iI 1) := by
  have hN := T.1.nn
  have b := T.1.bd v
  have b0 := cnt_bd (Lv F (F v)) v.toNat 0
  have tot := T.1.lvIn v h h2
  have b1 := cnt_bd (Lv F (F v)) (N - (v + 1)).toNat (v + 1)
  have nx := T.1.lvNext v h h2
  intro m
  induction m with
  | zero =>
    intro f k hf hk hk3 hm
    obtain ⟨f, rfl⟩ : ∃ g, f = g + 1 := ⟨f - 1, by omega⟩
    have key : mL_two_481 (f + 1) (iI N) d lb (iI v) (iI N) (iI (F v)) (iI (cnt (Lv F (F v)) N.toNat 0)) (iI (cnt (Lv F (F v)) v.toNat 0)) (iI x) (iI 1) (iI k) = mL_two_571 (iI N) d lb (iI v) (iI N) (iI (F v)) (iI (cnt (Lv F (F v)) v.toNat 0)) (iI (if cnt (Lv F (F v)) v.toNat 0 + 1 < cnt (Lv F (F v)) N.toNat 0 then kth (Lv F (F v)) (-5) N.toNat 0 (cnt (Lv F (F v)) v.toNat 0 + 1) else -5)) (iI (if cnt (Lv F (F v)) v.toNat 0 + 1 < cnt (Lv F (F v)) N.toNat 0 then kth (Lv F (F v)) (-5) N.toNat 0 (cnt (Lv F (F v)) v.toNat 0 + 1) else -5)) := by
      rw [mL_two_481, if_pos (show iI x ≤ iI k by rw [iI_le (by omega) (by omega) (by omega) (by omega)]; omega), if_neg e10, if_neg (show ¬ iI (cnt (Lv F (F v)) N.toNat 0) ≤ iI (cnt (Lv F (F v)) v.toNat 0) by rw [iI_le (by omega) (by omega) (by omega) (by omega)]; omega), lvK T (F v) _ b.1 (by omega) (by omega) (by omega), kth_past _ _ _ _ _ (Int.le_refl _), Option.bind_some, if_pos rfl, nb2 T v h h2, nx, Option.bind_some, iI_add]
      by_cases c : cnt (Lv F (F v)) v.toNat 0 + 1 < cnt (Lv F (F v)) N.toNat 0
      · rw [if_neg (show ¬ iI (cnt (Lv F (F v)) N.toNat 0) ≤ iI (cnt (Lv F (F v)) v.toNat 0 + 1) by rw [iI_le (by omega) (by omega) (by omega) (by omega)]; omega), if_pos c, lvK T (F v) _ b.1 (by omega) (by omega) (by omega), Option.bind_some]
      · rw [if_pos (show iI (cnt (Lv F (F v)) N.toNat 0) ≤ iI (cnt (Lv F (F v)) v.toNat 0 + 1) by rw [iI_le (by omega) (by omega) (by omega) (by omega)]; omega), if_neg c]
    rw [key]
    exact two_571 T v _ h h2
  | succ m ih =>
    intro f k hf hk hk3 hm
    obtain ⟨f, rfl⟩ : ∃ g, f = g + 1 := ⟨f - 1, by omega⟩
    have cc := T.1.cc k (by omega) (by omega)
    have c0 := T.1.cc0 k (by omega) (by omega)
    have nl := hl k hk (by omega)
    have cp : Cc F N k ≠ 0 := fun q => nl (c0.2.mp q)
    rw [mL_two_481, if_neg (show ¬ iI x ≤ iI k by rw [iI_le (by omega) (by omega) (by omega) (by omega)]; omega), if_neg e10, nd2 T k (by omega) (by omega), Option.bind_some, if_neg (show ¬ iI (Cc F N k) ≤ 0 by rw [iI_zero, iI_le (by omega) (by omega) (by omega) (by omega)]; omega), iI_add]
    exact ih f (k + 1) (by omega) (by omega) (by omega) (by omega)
end TWO
