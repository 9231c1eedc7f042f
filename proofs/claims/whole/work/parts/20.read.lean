/-! 20: the steps that only read: landed code and reference answer alike -/
theorem ex2 {α : Type _} {X Y : Option α} (h : X = Y) (h2 : Y.isSome = true) : ∃ r, X = some r ∧ Y = some r := by
  subst h
  obtain ⟨r, hr⟩ := Option.isSome_iff_exists.mp h2
  exact ⟨r, hr, hr⟩
theorem e10 : ¬ (iI 1 : Int32) = 0 := by decide
theorem e00 : (iI 0 : Int32) = 0 := rfl
section RTREE
variable {N : Int} {F G : Int → Int} {d lb : Nat → Int32}
theorem TV.dp (T : TV N F G) (v : Int) (h : 0 ≤ v) (h2 : v < N) : 0 ≤ Dp F N v ∧ Dp F N v < N := by
  have e := T.en v h h2
  have a := Am_in (F := F) (En F N v - v - 1).toNat (v + 1) v
  unfold Dp
  omega
theorem TV.rkNe (T : TV N F G) (v w : Int) (h : 0 ≤ v) (h2 : v < w) (h3 : w < N) : Rk F N v ≠ Rk F N w := by
  have ev := T.en v h (by omega)
  have ew := T.en w (by omega) h3
  unfold Rk
  by_cases c : w < En F N v
  · have f1 := ev.2.2.1 w h2 c
    have : En F N w ≤ En F N v := by
      by_cases q : En F N v < En F N w
      · have := ew.2.2.1 (En F N v) c q
        have := ev.2.2.2
        omega
      · omega
    omega
  · have := T.climbs' (En F N v) w (by omega) (by omega)
    have := ev.2.2.2
    omega
theorem TV.rkOnto (T : TV N F G) (r : Int) (h : 0 ≤ r) (h2 : r < N) : ∃ v, 0 ≤ v ∧ v < N ∧ Rk F N v = r := by
  obtain ⟨i, h3, h4⟩ := fb_onto (n := N.toNat) (f := fun i => (Rk F N i).toNat) (fun i hi => by have := T.rk i (by omega) (by omega); omega) (fun i j hij hj => by
    have a := T.rkNe i j (by omega) (by omega) (by omega)
    have b := T.rk i (by omega) (by omega)
    have c := T.rk j (by omega) (by omega)
    omega) (y := r.toNat) (by omega)
  have b := T.rk i (by omega) (by omega)
  exact ⟨i, by omega, by omega, by omega⟩
end RTREE
theorem st_size {n : Int32} {d : Nat → Int32} {lb : Nat → Int32} {wi : Int32} {sl : Int32} {kp : Int32} {ct : Nat → Int32} {gd : Nat → Int32} {gl : Nat → Int32} {ln : Int32} {ch : Nat → Int32} {mn : Int32} {md : Nat → Int32} {ml : Nat → Int32} {mk : Int32} {mr : Nat → Int32} {mt : Int32} {mx : Nat → Int32} {mw : Int32} (I : Inv n d lb wi sl kp ct gd gl ln ch mn md ml mk mr mt mx mw)  : ∃ r : Int32, mX4_size n = r ∧ mX5_size mn = r := by
  obtain ⟨N, F, G, T, M⟩ := I.1
  exact ⟨iI N, T.2.1, M.2.1⟩
theorem st_node {n : Int32} {d : Nat → Int32} {lb : Nat → Int32} {wi : Int32} {sl : Int32} {kp : Int32} {ct : Nat → Int32} {gd : Nat → Int32} {gl : Nat → Int32} {ln : Int32} {ch : Nat → Int32} {mn : Int32} {md : Nat → Int32} {ml : Nat → Int32} {mk : Int32} {mr : Nat → Int32} {mt : Int32} {mx : Nat → Int32} {mw : Int32} (I : Inv n d lb wi sl kp ct gd gl ln ch mn md ml mk mr mt mx mw) (a0 : Int32) (a1 : Int32) : ∃ r : Int32, mX4_node n d lb a0 a1 = some r ∧ mX5_node mn md ml a0 a1 = some r := by
  obtain ⟨N, F, G, T, M⟩ := I.1
  obtain rfl := T.2.1
  obtain rfl := M.2.1
  obtain ⟨v, rfl, hv1, hv2⟩ := iI_all a0
  have hN := T.1.nn
  unfold mX4_node mX5_node
  rw [hasOf T v hv1 hv2, noNodeOf M v hv1 hv2]
  by_cases c : 0 ≤ v ∧ v < N
  · rw [if_pos c, if_pos c, if_neg e10, if_pos e00]
    have dp := T.1.dp v c.1 c.2
    rw [dOf T v (by omega) (by omega), parentOf' T v c.1 c.2, childCountOf T v c.1 c.2, sizeOf' T v c.1 c.2, deepestOf' T v c.1 c.2, placeOf' T v c.1 c.2, leafCountOf T v c.1 c.2, openingOf' T v (by omega) (by omega), closingOf' T v c.1 c.2, postorderOf' T v c.1 c.2, lOf T v c.1 c.2, mparentOf M v c.1 c.2, mchildCountOf M v c.1 c.2, behindOf M v c.1 c.2, heightOf' M v c.1 c.2, mplaceOf M v c.1 c.2, leavesOf M v c.1 c.2, mopeningOf M v c.1 c.2, mclosingOf M v c.1 c.2, rankOf' M v c.1 c.2, gdi c.1 (by omega) (by omega), gdi c.1 (by omega) (by omega), dAt M v c.1 c.2, lAt M v c.1 c.2]
    simp only [Option.bind_some, iI_sub]
    rw [dOf T _ (by omega) (by omega), iI_sub]
    exact ex2 rfl (by (repeat' split) <;> rfl)
  · rw [if_neg c, if_neg c, if_pos e00, if_neg e10]
    exact ⟨_, rfl, rfl⟩
theorem st_child {n : Int32} {d : Nat → Int32} {lb : Nat → Int32} {wi : Int32} {sl : Int32} {kp : Int32} {ct : Nat → Int32} {gd : Nat → Int32} {gl : Nat → Int32} {ln : Int32} {ch : Nat → Int32} {mn : Int32} {md : Nat → Int32} {ml : Nat → Int32} {mk : Int32} {mr : Nat → Int32} {mt : Int32} {mx : Nat → Int32} {mw : Int32} (I : Inv n d lb wi sl kp ct gd gl ln ch mn md ml mk mr mt mx mw) (a0 : Int32) (a1 : Int32) : ∃ r : Int32, mX4_child n d a0 a1 = some r ∧ mX5_child mn md a0 a1 = some r := by
  obtain ⟨N, F, G, T, M⟩ := I.1
  obtain rfl := T.2.1
  obtain rfl := M.2.1
  obtain ⟨v, rfl, hv1, hv2⟩ := iI_all a0
  obtain ⟨j, rfl, hj1, hj2⟩ := iI_all a1
  have hN := T.1.nn
  unfold mX4_child mX5_child
  rw [hasOf T v hv1 hv2, noNodeOf M v hv1 hv2]
  by_cases c : 0 ≤ v ∧ v < N
  · rw [if_pos c, if_pos c, if_neg e10, if_pos e00]
    simp (disch := omega) only [childCountOf T, mchildCountOf M, startOfPlaceOf T, childOrEndOf M, Option.bind_some]
    exact ex2 rfl (by (repeat' split) <;> rfl)
  · rw [if_neg c, if_neg c, if_pos e00, if_neg e10]
    exact ⟨_, rfl, rfl⟩
theorem st_neighbour {n : Int32} {d : Nat → Int32} {lb : Nat → Int32} {wi : Int32} {sl : Int32} {kp : Int32} {ct : Nat → Int32} {gd : Nat → Int32} {gl : Nat → Int32} {ln : Int32} {ch : Nat → Int32} {mn : Int32} {md : Nat → Int32} {ml : Nat → Int32} {mk : Int32} {mr : Nat → Int32} {mt : Int32} {mx : Nat → Int32} {mw : Int32} (I : Inv n d lb wi sl kp ct gd gl ln ch mn md ml mk mr mt mx mw) (a0 : Int32) (a1 : Int32) : ∃ r : Int32, mX4_neighbour n d a0 a1 = some r ∧ mX5_neighbour mn md a0 a1 = some r := by
  obtain ⟨N, F, G, T, M⟩ := I.1
  obtain rfl := T.2.1
  obtain rfl := M.2.1
  obtain ⟨v, rfl, hv1, hv2⟩ := iI_all a0
  have hN := T.1.nn
  unfold mX4_neighbour mX5_neighbour
  rw [hasOf T v hv1 hv2, noNodeOf M v hv1 hv2]
  by_cases c : 0 ≤ v ∧ v < N
  · rw [if_pos c, if_pos c, if_neg e10, if_pos e00]
    have e := T.1.en v c.1 c.2
    have b := T.1.bd v
    have b2 := T.1.bd (En F N v)
    have nx : (if iI N ≤ iI (En F N v) then some (iI (-5)) else if inb (iI (En F N v)) 100 then if inb (iI v) 100 then if md (iI (En F N v)).toNatClampNeg = md (iI v).toNatClampNeg then some (iI (En F N v)) else some (iI (-5)) else none else none) = some (iI (Nx F N v)) := by
      unfold Nx
      by_cases q : N ≤ En F N v
      · simp (disch := omega) only [iI_zero, iI_len, iI_le, iI_lt, iI_eq, iI_add, iI_sub, iI_mul, Option.bind_some]
        rw [if_pos q, if_neg (by omega)]
      · simp (disch := omega) only [iI_zero, iI_len, iI_le, iI_lt, iI_eq, iI_add, iI_sub, iI_mul, Option.bind_some, gdi, dAt M]
        rw [if_neg q]
        by_cases t : F (En F N v) = F v
        · rw [if_pos t, if_pos (by omega)]
        · rw [if_neg t, if_neg (fun w => t w.2)]
    simp (disch := omega) only [nextSiblingOf T, previousSiblingOf T, nextAtDepthOf T, previousAtDepthOf T, nextLeafOf T, largestChildOf T, behindOf M, siblingOf M, levelMateUpOf M, levelMateDnOf M, leafBehindOf M, heaviestOf M, Option.bind_some, nx]
    exact ex2 rfl (by (repeat' split) <;> rfl)
  · rw [if_neg c, if_neg c, if_pos e00, if_neg e10]
    exact ⟨_, rfl, rfl⟩
theorem st_ancestorAt {n : Int32} {d : Nat → Int32} {lb : Nat → Int32} {wi : Int32} {sl : Int32} {kp : Int32} {ct : Nat → Int32} {gd : Nat → Int32} {gl : Nat → Int32} {ln : Int32} {ch : Nat → Int32} {mn : Int32} {md : Nat → Int32} {ml : Nat → Int32} {mk : Int32} {mr : Nat → Int32} {mt : Int32} {mx : Nat → Int32} {mw : Int32} (I : Inv n d lb wi sl kp ct gd gl ln ch mn md ml mk mr mt mx mw) (a0 : Int32) (a1 : Int32) : ∃ r : Int32, mX4_ancestorAt n d a0 a1 = some r ∧ mX5_ancestorAt mn md a0 a1 = some r := by
  obtain ⟨N, F, G, T, M⟩ := I.1
  obtain rfl := T.2.1
  obtain rfl := M.2.1
  obtain ⟨v, rfl, hv1, hv2⟩ := iI_all a0
  obtain ⟨j, rfl, hj1, hj2⟩ := iI_all a1
  have hN := T.1.nn
  have b := T.1.bd v
  unfold mX4_ancestorAt mX5_ancestorAt
  rw [hasOf T v hv1 hv2, noNodeOf M v hv1 hv2]
  by_cases c : 0 ≤ v ∧ v < N
  · rw [if_pos c, if_pos c, if_neg e10, if_pos e00]
    simp (disch := omega) only [iI_zero, iI_len, iI_le, iI_lt, iI_eq, iI_add, iI_sub, iI_mul, Option.bind_some, dOf T, gdi, dAt M, inOf]
    by_cases q : 0 ≤ j ∧ j ≤ F v
    · rw [if_neg (by omega : ¬ j < 0), if_pos q.2, if_pos q, if_neg (by omega), climbIn T v j c.1 c.2 q.1 q.2, upToOf M v j c.1 c.2 q.1 q.2]
      exact ⟨_, rfl, rfl⟩
    · rw [if_neg q, if_pos rfl]
      refine ⟨iI (-2), ?_, rfl⟩
      by_cases t : j < 0
      · rw [if_pos t]
      · rw [if_neg t, if_neg (by omega)]
  · rw [if_neg c, if_neg c, if_pos e00, if_neg e10]
    exact ⟨_, rfl, rfl⟩
theorem st_common {n : Int32} {d : Nat → Int32} {lb : Nat → Int32} {wi : Int32} {sl : Int32} {kp : Int32} {ct : Nat → Int32} {gd : Nat → Int32} {gl : Nat → Int32} {ln : Int32} {ch : Nat → Int32} {mn : Int32} {md : Nat → Int32} {ml : Nat → Int32} {mk : Int32} {mr : Nat → Int32} {mt : Int32} {mx : Nat → Int32} {mw : Int32} (I : Inv n d lb wi sl kp ct gd gl ln ch mn md ml mk mr mt mx mw) (a0 : Int32) (a1 : Int32) : ∃ r : Int32, mX4_common n d a0 a1 = some r ∧ mX5_common mn md a0 a1 = some r := by
  obtain ⟨N, F, G, T, M⟩ := I.1
  obtain rfl := T.2.1
  obtain rfl := M.2.1
  obtain ⟨v, rfl, hv1, hv2⟩ := iI_all a0
  obtain ⟨w, rfl, hw1, hw2⟩ := iI_all a1
  unfold mX4_common mX5_common
  rw [hasOf T v hv1 hv2, noNodeOf M v hv1 hv2, hasOf T w hw1 hw2, noNodeOf M w hw1 hw2]
  by_cases c : 0 ≤ v ∧ v < N
  · rw [if_pos c, if_pos c, if_neg e10, if_pos e00]
    by_cases q : 0 ≤ w ∧ w < N
    · rw [if_pos q, if_pos q, if_neg e10, if_pos e00, meetingOf' T v w c.1 c.2 q.1 q.2, commonOf' M v w c.1 c.2 q.1 q.2]
      exact ⟨_, rfl, rfl⟩
    · rw [if_neg q, if_neg q, if_pos e00, if_neg e10]
      exact ⟨_, rfl, rfl⟩
  · rw [if_neg c, if_neg c, if_pos e00, if_neg e10]
    exact ⟨_, rfl, rfl⟩
theorem st_way {n : Int32} {d : Nat → Int32} {lb : Nat → Int32} {wi : Int32} {sl : Int32} {kp : Int32} {ct : Nat → Int32} {gd : Nat → Int32} {gl : Nat → Int32} {ln : Int32} {ch : Nat → Int32} {mn : Int32} {md : Nat → Int32} {ml : Nat → Int32} {mk : Int32} {mr : Nat → Int32} {mt : Int32} {mx : Nat → Int32} {mw : Int32} (I : Inv n d lb wi sl kp ct gd gl ln ch mn md ml mk mr mt mx mw) (a0 : Int32) (a1 : Int32) (a2 : Int32) : ∃ r : Int32, mX4_way n d a0 a1 a2 = some r ∧ mX5_way mn md a0 a1 a2 = some r := by
  obtain ⟨N, F, G, T, M⟩ := I.1
  obtain rfl := T.2.1
  obtain rfl := M.2.1
  obtain ⟨v, rfl, hv1, hv2⟩ := iI_all a0
  obtain ⟨w, rfl, hw1, hw2⟩ := iI_all a1
  obtain ⟨j, rfl, hj1, hj2⟩ := iI_all a2
  have hN := T.1.nn
  unfold mX4_way mX5_way
  rw [hasOf T v hv1 hv2, noNodeOf M v hv1 hv2, hasOf T w hw1 hw2, noNodeOf M w hw1 hw2]
  by_cases c : 0 ≤ v ∧ v < N
  · rw [if_pos c, if_pos c, if_neg e10, if_pos e00]
    by_cases q : 0 ≤ w ∧ w < N
    · rw [if_pos q, if_pos q, if_neg e10, if_pos e00, meetingOf' T v w c.1 c.2 q.1 q.2, commonOf' M v w c.1 c.2 q.1 q.2]
      have cm := T.1.cm (if w < v then w else v) (if v < w then w else v) (by split <;> omega) (by split <;> split <;> omega) (by split <;> omega)
      obtain ⟨u, hu⟩ : ∃ u, u = Cm F (if w < v then w else v) (if v < w then w else v) := ⟨_, rfl⟩
      rw [← hu] at cm ⊢
      have un : 0 ≤ u ∧ u < N ∧ u ≤ v ∧ u ≤ w := by
        have := cm.1
        have := cm.2.1
        revert this
        split <;> intro _ <;> omega
      have fv : F u ≤ F v := by
        by_cases t : u = v
        · rw [t]; exact Int.le_refl _
        · have := cm.2.2.1 v (by omega) (by split <;> omega); omega
      have fw : F u ≤ F w := by
        by_cases t : u = w
        · rw [t]; exact Int.le_refl _
        · have := cm.2.2.1 w (by omega) (by split <;> omega); omega
      have bu := T.1.bd u
      have bv := T.1.bd v
      have bw := T.1.bd w
      simp (disch := omega) only [iI_zero, iI_len, iI_le, iI_lt, iI_eq, iI_add, iI_sub, iI_mul, Option.bind_some, dOf T, gdi, dAt M]
      by_cases g : -1 ≤ j
      · rw [if_pos g, if_pos g]
        by_cases m1 : j = -1
        · rw [if_pos m1, if_neg (show ¬ 0 ≤ j by omega)]
          exact ⟨_, rfl, rfl⟩
        · rw [if_neg m1, if_pos (show 0 ≤ j by omega)]
          by_cases st : j ≤ F v - F u + F w - F u
          · rw [if_pos st, if_pos st]
            by_cases up : F v - F u < j
            · rw [if_pos up, if_pos up, climbIn T w _ q.1 q.2 (by omega) (by omega), upToOf M w _ q.1 q.2 (by omega) (by omega)]
              exact ⟨_, rfl, rfl⟩
            · rw [if_neg up, if_neg up, climbIn T v _ c.1 c.2 (by omega) (by omega), upToOf M v _ c.1 c.2 (by omega) (by omega)]
              exact ⟨_, rfl, rfl⟩
          · rw [if_neg st, if_neg st]
            exact ⟨_, rfl, rfl⟩
      · rw [if_neg g, if_neg g]
        exact ⟨_, rfl, rfl⟩
    · rw [if_neg q, if_neg q, if_pos e00, if_neg e10]
      exact ⟨_, rfl, rfl⟩
  · rw [if_neg c, if_neg c, if_pos e00, if_neg e10]
    exact ⟨_, rfl, rfl⟩
theorem st_level {n : Int32} {d : Nat → Int32} {lb : Nat → Int32} {wi : Int32} {sl : Int32} {kp : Int32} {ct : Nat → Int32} {gd : Nat → Int32} {gl : Nat → Int32} {ln : Int32} {ch : Nat → Int32} {mn : Int32} {md : Nat → Int32} {ml : Nat → Int32} {mk : Int32} {mr : Nat → Int32} {mt : Int32} {mx : Nat → Int32} {mw : Int32} (I : Inv n d lb wi sl kp ct gd gl ln ch mn md ml mk mr mt mx mw) (a0 : Int32) (a1 : Int32) : ∃ r : Int32, mX4_level n d a0 a1 = some r ∧ mX5_level mn md a0 a1 = some r := by
  obtain ⟨N, F, G, T, M⟩ := I.1
  obtain rfl := T.2.1
  obtain rfl := M.2.1
  obtain ⟨e, rfl, he1, he2⟩ := iI_all a0
  obtain ⟨j, rfl, hj1, hj2⟩ := iI_all a1
  have hN := T.1.nn
  unfold mX4_level mX5_level mX3_countAtDepth mX3_findAtDepth
  rw [countAtDepth_4 T e he1 he2 N.toNat _ 0 0 (by rw [FU_big]; omega) (by omega) (by omega) (by omega) (by omega), findAtDepth_5 T e j he1 he2 hj1 hj2 N.toNat _ 0 0 (by rw [FU_big]; omega) (by omega) (by omega) (by omega) (by omega)]
  simp (disch := omega) only [iI_zero, iI_len, iI_le, iI_lt, iI_eq, iI_add, iI_sub, iI_mul, Option.bind_some]
  by_cases c : e < 0
  · rw [if_pos c, if_pos c]
    exact ⟨_, rfl, rfl⟩
  · rw [if_neg c, if_neg c]
    by_cases g : -1 ≤ j
    · rw [if_pos g, if_pos g]
      by_cases m1 : j = -1
      · rw [if_pos m1, m1, level_cnt M e he1 he2 N.toNat _ 0 0 (by rw [FU_big]; omega) (by omega) (by omega) (by omega) (by omega)]
        exact ⟨_, rfl, rfl⟩
      · rw [if_neg m1, level_kth M e j he1 he2 (by omega) hj2 N.toNat _ 0 0 (by rw [FU_big]; omega) (by omega) (by omega) (by omega) (by omega)]
        exact ⟨_, rfl, rfl⟩
    · rw [if_neg g, if_neg g]
      exact ⟨_, rfl, rfl⟩
theorem st_byPostorder {n : Int32} {d : Nat → Int32} {lb : Nat → Int32} {wi : Int32} {sl : Int32} {kp : Int32} {ct : Nat → Int32} {gd : Nat → Int32} {gl : Nat → Int32} {ln : Int32} {ch : Nat → Int32} {mn : Int32} {md : Nat → Int32} {ml : Nat → Int32} {mk : Int32} {mr : Nat → Int32} {mt : Int32} {mx : Nat → Int32} {mw : Int32} (I : Inv n d lb wi sl kp ct gd gl ln ch mn md ml mk mr mt mx mw) (a0 : Int32) : ∃ r : Int32, mX4_byPostorder n d a0 = some r ∧ mX5_byPostorder mn md a0 = some r := by
  obtain ⟨N, F, G, T, M⟩ := I.1
  obtain rfl := T.2.1
  obtain rfl := M.2.1
  obtain ⟨r, rfl, hr1, hr2⟩ := iI_all a0
  have hN := T.1.nn
  unfold mX4_byPostorder mX5_byPostorder mX3_count
  rw [findByPostorderOf T r hr1 hr2, byPostorder_2 M r hr1 hr2 N.toNat _ 0 (by rw [FU_big]; omega) (by omega) (by omega)]
  simp (disch := omega) only [iI_zero, iI_len, iI_le, iI_lt, iI_eq, iI_add, iI_sub, iI_mul, Option.bind_some]
  have fs := fst_spec (fun y => decide (Rk F N y = r)) N.toNat 0
  by_cases c : 0 ≤ r ∧ r < N
  · obtain ⟨v, g1, g2, g3⟩ := T.1.rkOnto r c.1 c.2
    have ne : ¬ fst (fun y => decide (Rk F N y = r)) N.toNat 0 = N := by
      intro q
      have := fs.2.2.1 v g1 (by omega)
      simp at this
      exact this g3
    rw [if_neg (by omega : ¬ r < 0), if_pos c.2, orElse, orElse, if_neg ne, if_neg ne]
    exact ⟨_, rfl, rfl⟩
  · have eq : fst (fun y => decide (Rk F N y = r)) N.toNat 0 = N := fst_eq _ _ _ _ (by omega) (by omega) (fun y q1 q2 => by have := T.1.rk y q1 q2; simp only [decide_eq_false_iff_not]; omega) (fun q => absurd q (by omega))
    rw [orElse, orElse, if_pos eq, if_pos eq]
    refine ⟨iI (-2), ?_, rfl⟩
    by_cases t : r < 0
    · rw [if_pos t]
    · rw [if_neg t, if_neg (by omega)]
theorem st_deepest {n : Int32} {d : Nat → Int32} {lb : Nat → Int32} {wi : Int32} {sl : Int32} {kp : Int32} {ct : Nat → Int32} {gd : Nat → Int32} {gl : Nat → Int32} {ln : Int32} {ch : Nat → Int32} {mn : Int32} {md : Nat → Int32} {ml : Nat → Int32} {mk : Int32} {mr : Nat → Int32} {mt : Int32} {mx : Nat → Int32} {mw : Int32} (I : Inv n d lb wi sl kp ct gd gl ln ch mn md ml mk mr mt mx mw) (a0 : Int32) : ∃ r : Int32, mX4_deepest n d a0 = some r ∧ mX5_deepest mn md a0 = some r := by
  obtain ⟨N, F, G, T, M⟩ := I.1
  obtain rfl := T.2.1
  obtain rfl := M.2.1
  obtain ⟨v, rfl, hv1, hv2⟩ := iI_all a0
  have hN := T.1.nn
  unfold mX4_deepest mX5_deepest
  rw [hasOf T v hv1 hv2, noNodeOf M v hv1 hv2]
  by_cases c : 0 ≤ v ∧ v < N
  · have e := T.1.en v c.1 c.2
    rw [if_pos c, if_pos c, if_neg e10, if_pos e00, deepestOf' T v c.1 c.2, deepest_14 M v c.1 c.2 ((En F N v - v - 1).toNat + 1) _ v v (by rw [FU_big]; omega) (by omega) (by omega) (by omega) (by omega), Am_self]
    exact ⟨_, rfl, rfl⟩
  · rw [if_neg c, if_neg c, if_pos e00, if_neg e10]
    exact ⟨_, rfl, rfl⟩
theorem st_bracket {n : Int32} {d : Nat → Int32} {lb : Nat → Int32} {wi : Int32} {sl : Int32} {kp : Int32} {ct : Nat → Int32} {gd : Nat → Int32} {gl : Nat → Int32} {ln : Int32} {ch : Nat → Int32} {mn : Int32} {md : Nat → Int32} {ml : Nat → Int32} {mk : Int32} {mr : Nat → Int32} {mt : Int32} {mx : Nat → Int32} {mw : Int32} (I : Inv n d lb wi sl kp ct gd gl ln ch mn md ml mk mr mt mx mw) (a0 : Int32) (a1 : Int32) : ∃ r : Int32, mX4_bracket n d a0 a1 = some r ∧ mX5_bracket mn md a0 a1 = some r := by
  obtain ⟨N, F, G, T, M⟩ := I.1
  obtain rfl := T.2.1
  obtain rfl := M.2.1
  obtain ⟨p, rfl, hp1, hp2⟩ := iI_all a0
  have hN := T.1.nn
  unfold mX4_bracket mX5_bracket mX3_positionCount
  rw [iI_mul 2 N, iI_sub, inOf p 0 (2 * N - 1) hp1 hp2 (by omega) (by omega) (by omega) (by omega)]
  by_cases c : 0 ≤ p ∧ p < 2 * N
  · obtain ⟨a1, a2, a3, a4⟩ := T.1.np p c.1 c.2
    rw [if_neg (show ¬ iI p < 0 by rw [iI_zero, iI_lt (by omega) (by omega) (by omega) (by omega)]; omega), if_pos (show iI p < iI (2 * N) by rw [iI_lt (by omega) (by omega) (by omega) (by omega)]; omega), if_pos (show 0 ≤ p ∧ p ≤ 2 * N - 1 by omega), if_neg e10, nodeOfPositionOf T p c.1 c.2, nodeAtOf M p c.1 c.2]
    simp only [Option.bind_some]
    rw [iI_add, excessBeforeOf T (p + 1) (by omega) (by omega), excessOf M p c.1 c.2, show 2 * Ob F N (p + 1) - (p + 1) = Ex F N p from rfl]
    generalize Np F N p = u at a2 a3 ⊢
    rw [openingOf' T u (by omega) (by omega), mopeningOf M u a2 a3, closingOf' T u a2 a3, mclosingOf M u a2 a3, parentOf' T u a2 a3, mparentOf M u a2 a3]
    simp only [Option.bind_some, if_neg e10, if_pos e00]
    by_cases z : u = 0
    · have zz : iI u = 0 := by rw [z]; rfl
      simp only [if_pos zz]
      exact ex2 rfl (by (repeat' split) <;> rfl)
    · have zz : ¬ iI u = 0 := by rw [iI_zero, iI_eq (by omega) (by omega) (by omega) (by omega)]; exact z
      have pa := T.1.paSpec u (by omega) a3
      simp only [if_neg zz]
      rw [openingOf' T (Pa F u) (by omega) (by omega), mopeningOf M (Pa F u) (by omega) (by omega)]
      simp only [Option.bind_some]
      exact ex2 rfl (by (repeat' split) <;> rfl)
  · rw [if_neg (show ¬ (0 ≤ p ∧ p ≤ 2 * N - 1) by omega), if_pos e00]
    refine ⟨iI (-1), ?_, rfl⟩
    simp (disch := omega) only [iI_zero, iI_len, iI_le, iI_lt, iI_eq, iI_add, iI_sub, iI_mul, Option.bind_some]
    by_cases t : p < 0
    · rw [if_pos t]
    · rw [if_neg t, if_neg (by omega)]
theorem st_block {n : Int32} {d : Nat → Int32} {lb : Nat → Int32} {wi : Int32} {sl : Int32} {kp : Int32} {ct : Nat → Int32} {gd : Nat → Int32} {gl : Nat → Int32} {ln : Int32} {ch : Nat → Int32} {mn : Int32} {md : Nat → Int32} {ml : Nat → Int32} {mk : Int32} {mr : Nat → Int32} {mt : Int32} {mx : Nat → Int32} {mw : Int32} (I : Inv n d lb wi sl kp ct gd gl ln ch mn md ml mk mr mt mx mw) (a0 : Int32) (a1 : Int32) : ∃ r : Int32, mX4_block n d wi a0 a1 = some r ∧ mX5_block mn md mw a0 a1 = some r := by
  obtain ⟨N, F, G, T, M⟩ := I.1
  obtain rfl := T.2.1
  obtain rfl := M.2.1
  obtain ⟨w, rfl, rfl, hw1, hw2⟩ := I.2.1
  obtain ⟨k, rfl, hk1, hk2⟩ := iI_all a0
  have hN := T.1.nn
  have bk := Bk_bd N w hN.1 hN.2 hw1 hw2
  unfold mX4_block mX5_block
  rw [countForOf N w hN.1 hN.2 hw1 hw2, blocksOf N w hN.1 hN.2 hw1 hw2]
  simp only [Option.bind_some]
  rw [iI_sub, inOf k 0 (Bk N w - 1) hk1 hk2 (by omega) (by omega) (by omega) (by omega)]
  by_cases c : 0 ≤ k ∧ k < Bk N w
  · rw [if_neg (show ¬ iI k < 0 by rw [iI_zero, iI_lt (by omega) (by omega) (by omega) (by omega)]; omega), if_pos (show iI k < iI (Bk N w) by rw [iI_lt (by omega) (by omega) (by omega) (by omega)]; omega), if_pos (show 0 ≤ k ∧ k ≤ Bk N w - 1 by omega), if_neg e10]
    have inn := Bk_in N w k hw1 c.1 c.2
    have kz : k = 0 → k * w = 0 := fun q => by rw [q, Int.zero_mul]
    have kz2 : k ≠ 0 → w ≤ k * w := fun q => by
      have := Int.mul_le_mul_of_nonneg_right (show 1 ≤ k by omega) (show 0 ≤ w by omega)
      omega
    unfold mX0_leastExcess mX0_greatestExcess mX0_positionsOf mX0_endOf mX0_startOf mX3_positionCount
    simp only [iI_mul, iI_add]
    obtain ⟨b, hb⟩ : ∃ b, b = k * w := ⟨_, rfl⟩
    rw [← hb] at inn kz kz2 ⊢
    have ex := T.1.ex b inn.1 inn.2
    have eb : (iMin (iI (b + w)) (iI (2 * N))) = iI (if 2 * N < b + w then 2 * N else b + w) := by
      simp only [iMin]
      simp (disch := omega) only [iI_zero, iI_len, iI_le, iI_lt, iI_eq, iI_add, iI_sub, iI_mul, Option.bind_some, iI_ite]
    rw [eb, excessOf M b inn.1 inn.2, openedBeforeOf T b (by omega) (by omega), excessBeforeOf T b (by omega) (by omega)]
    simp only [Option.bind_some]
    obtain ⟨e, he⟩ : ∃ e, e = (if 2 * N < b + w then 2 * N else b + w) := ⟨_, rfl⟩
    have hee : b < e ∧ e ≤ 2 * N := by rw [he]; split <;> omega
    rw [← he, leastExcess_29 T _ _ e hee.2 (e - b).toNat _ b 100 (by rw [FU_big]; omega) (by omega) (by omega) (by omega) (by omega), greatestExcess_28 T _ _ e hee.2 (e - b).toNat _ b 0 (by rw [FU_big]; omega) (by omega) (by omega) (by omega) (by omega)]
    have mo : (if iI (2 * N) ≤ iI (b + w) then mX5_block_71 FU (iI N) md (iI w) (iI k) a1 (iI b) (iI (2 * N)) (iI (Ex F N b)) (iI (Ex F N b)) (iI (b + 1)) else mX5_block_71 FU (iI N) md (iI w) (iI k) a1 (iI b) (iI (b + w)) (iI (Ex F N b)) (iI (Ex F N b)) (iI (b + 1))) = mX5_block_71 FU (iI N) md (iI w) (iI k) a1 (iI b) (iI e) (iI (Ex F N b)) (iI (Ex F N b)) (iI (b + 1)) := by
      simp (disch := omega) only [iI_zero, iI_len, iI_le, iI_lt, iI_eq, iI_add, iI_sub, iI_mul, Option.bind_some]
      by_cases q : 2 * N ≤ b + w
      · rw [if_pos q]
        by_cases q2 : 2 * N < b + w
        · rw [if_pos q2] at he; rw [he]
        · rw [if_neg q2] at he; rw [he, show b + w = 2 * N by omega]
      · rw [if_neg q]
        rw [if_neg (by omega)] at he; rw [he]
    rw [mo, block_71 M _ _ _ b e hee.2 (e - b - 1).toNat _ (b + 1) _ _ (by rw [FU_big]; omega) (by omega) (by omega) ex.1 ex.2 ex.1 ex.2, show (e - b).toNat = (e - b - 1).toNat + 1 by omega, Mi, Ma, bkR]
    have m1 : (if Ex F N b < 100 then Ex F N b else 100) = Ex F N b := by split <;> omega
    have m2 : (if 0 < Ex F N b then Ex F N b else 0) = Ex F N b := by split <;> omega
    rw [m1, m2, iI_sub]
    by_cases q : k = 0
    · have ob : Ob F N b = 0 := fst_eq _ _ _ _ (by omega) (by omega) (fun y g1 g2 => absurd g2 (by omega)) (fun _ => by rw [kz q, T.1.2.2.1]; decide)
      rw [if_pos (by rw [q] : iI k = iI 0), ob, kz q]
      exact ex2 rfl (by (repeat' split) <;> rfl)
    · rw [if_neg (by rw [iI_eq (by omega) (by omega) (by omega) (by omega)]; exact q : ¬ iI k = iI 0), excessOf M (b - 1) (by have := kz2 q; omega) (by omega)]
      simp only [Option.bind_some]
      have exd : Ex F N (b - 1) = 2 * Ob F N b - b := by unfold Ex; rw [show b - 1 + 1 = b by omega]
      rw [exd]
      exact ex2 rfl (by (repeat' split) <;> rfl)
  · rw [if_neg (show ¬ (0 ≤ k ∧ k ≤ Bk N w - 1) by omega), if_pos e00]
    refine ⟨iI (-1), ?_, rfl⟩
    simp (disch := omega) only [iI_zero, iI_len, iI_le, iI_lt, iI_eq, iI_add, iI_sub, iI_mul, Option.bind_some]
    by_cases t : k < 0
    · rw [if_pos t]
    · rw [if_neg t, if_neg (by omega)]
theorem st_labelled {n : Int32} {d : Nat → Int32} {lb : Nat → Int32} {wi : Int32} {sl : Int32} {kp : Int32} {ct : Nat → Int32} {gd : Nat → Int32} {gl : Nat → Int32} {ln : Int32} {ch : Nat → Int32} {mn : Int32} {md : Nat → Int32} {ml : Nat → Int32} {mk : Int32} {mr : Nat → Int32} {mt : Int32} {mx : Nat → Int32} {mw : Int32} (I : Inv n d lb wi sl kp ct gd gl ln ch mn md ml mk mr mt mx mw) (a0 : Int32) (a1 : Int32) : ∃ r : Int32, mX4_labelled n d lb a0 (c16 a1) = some r ∧ mX5_labelled mn md ml a0 (c16 a1) = some r := by
  obtain ⟨N, F, G, T, M⟩ := I.1
  obtain rfl := T.2.1
  obtain rfl := M.2.1
  obtain ⟨v, rfl, hv1, hv2⟩ := iI_all a0
  obtain ⟨g, hg, hg1, hg2⟩ := iI_all (c16 a1)
  rw [hg]
  have hN := T.1.nn
  unfold mX4_labelled mX5_labelled mX5_find
  rw [hasOf T v hv1 hv2, noNodeOf M v hv1 hv2]
  by_cases c : 0 ≤ v ∧ v < N
  · have e := T.1.en v c.1 c.2
    rw [if_pos c, if_pos c, if_neg e10, if_pos e00, countLabelOf T v g c.1 c.2 hg1 hg2, find_cnt M v g c.1 c.2 hg1 hg2 (En F N v - v).toNat _ 0 v (by rw [FU_big]; omega) (by omega) (by omega) (by omega) (by omega), Int.zero_add]
    exact ex2 rfl (by (repeat' split) <;> rfl)
  · rw [if_neg c, if_neg c, if_pos e00, if_neg e10]
    exact ⟨_, rfl, rfl⟩
theorem st_select {n : Int32} {d : Nat → Int32} {lb : Nat → Int32} {wi : Int32} {sl : Int32} {kp : Int32} {ct : Nat → Int32} {gd : Nat → Int32} {gl : Nat → Int32} {ln : Int32} {ch : Nat → Int32} {mn : Int32} {md : Nat → Int32} {ml : Nat → Int32} {mk : Int32} {mr : Nat → Int32} {mt : Int32} {mx : Nat → Int32} {mw : Int32} (I : Inv n d lb wi sl kp ct gd gl ln ch mn md ml mk mr mt mx mw) (a0 : Int32) (a1 : Int32) (a2 : Int32) : ∃ r : Int32, mX4_select n d lb a0 (c16 a1) a2 = some r ∧ mX5_select mn md ml a0 (c16 a1) a2 = some r := by
  obtain ⟨N, F, G, T, M⟩ := I.1
  obtain rfl := T.2.1
  obtain rfl := M.2.1
  obtain ⟨v, rfl, hv1, hv2⟩ := iI_all a0
  obtain ⟨j, rfl, hj1, hj2⟩ := iI_all a2
  obtain ⟨g, hg, hg1, hg2⟩ := iI_all (c16 a1)
  rw [hg]
  have hN := T.1.nn
  unfold mX4_select mX5_select mX5_find
  rw [hasOf T v hv1 hv2, noNodeOf M v hv1 hv2]
  by_cases c : 0 ≤ v ∧ v < N
  · have e := T.1.en v c.1 c.2
    rw [if_pos c, if_pos c, if_neg e10, if_pos e00, findLabelOf T v g j c.1 c.2 hg1 hg2 hj1 hj2]
    by_cases l : mX4_isLetter (iI g) = 0
    · rw [if_pos l, if_pos (show mX5_isLetter (iI g) = 0 from l)]
      exact ⟨_, rfl, rfl⟩
    · rw [if_neg l, if_neg (show ¬ mX5_isLetter (iI g) = 0 from l)]
      simp (disch := omega) only [iI_zero, iI_len, iI_le, iI_lt, iI_eq, iI_add, iI_sub, iI_mul, Option.bind_some]
      by_cases q : j < 0
      · rw [if_neg (by omega), if_pos q]
        exact ⟨_, rfl, rfl⟩
      · rw [if_pos (by omega), if_neg q, find_kth M v g j c.1 c.2 hg1 hg2 (by omega) hj2 (En F N v - v).toNat _ 0 v (by rw [FU_big]; omega) (by omega) (by omega) (by omega) (by omega), Int.sub_zero]
        exact ⟨_, rfl, rfl⟩
  · rw [if_neg c, if_neg c, if_pos e00, if_neg e10]
    exact ⟨_, rfl, rfl⟩
theorem st_ancestorWith {n : Int32} {d : Nat → Int32} {lb : Nat → Int32} {wi : Int32} {sl : Int32} {kp : Int32} {ct : Nat → Int32} {gd : Nat → Int32} {gl : Nat → Int32} {ln : Int32} {ch : Nat → Int32} {mn : Int32} {md : Nat → Int32} {ml : Nat → Int32} {mk : Int32} {mr : Nat → Int32} {mt : Int32} {mx : Nat → Int32} {mw : Int32} (I : Inv n d lb wi sl kp ct gd gl ln ch mn md ml mk mr mt mx mw) (a0 : Int32) (a1 : Int32) : ∃ r : Int32, mX4_ancestorWith n d lb a0 (c16 a1) = some r ∧ mX5_ancestorWith mn md ml a0 (c16 a1) = some r := by
  obtain ⟨N, F, G, T, M⟩ := I.1
  obtain rfl := T.2.1
  obtain rfl := M.2.1
  obtain ⟨v, rfl, hv1, hv2⟩ := iI_all a0
  obtain ⟨g, hg, hg1, hg2⟩ := iI_all (c16 a1)
  rw [hg]
  have hN := T.1.nn
  unfold mX4_ancestorWith mX5_ancestorWith
  rw [hasOf T v hv1 hv2, noNodeOf M v hv1 hv2]
  by_cases c : 0 ≤ v ∧ v < N
  · have pr : Pa F v = -5 ∨ 0 ≤ Pa F v ∧ Pa F v < v := by
      by_cases t : v = 0
      · left; rw [Pa, if_pos t]
      · right; have p := T.1.paSpec v (by omega) c.2; exact ⟨p.1, p.2.1⟩
    rw [if_pos c, if_pos c, if_neg e10, if_pos e00, findAncestorOf T v g c.1 c.2 hg1 hg2, mparentOf M v c.1 c.2, Option.bind_some, Option.bind_some, ancestorWith_26 M _ g hg1 hg2 200 _ (Pa F v) (by omega) (by rw [FU_big]; omega) (by omega) (by omega), ← T.1.faPa g v c.1 c.2]
    exact ex2 rfl (by (repeat' split) <;> rfl)
  · rw [if_neg c, if_neg c, if_pos e00, if_neg e10]
    exact ⟨_, rfl, rfl⟩
theorem st_areEqual {n : Int32} {d : Nat → Int32} {lb : Nat → Int32} {wi : Int32} {sl : Int32} {kp : Int32} {ct : Nat → Int32} {gd : Nat → Int32} {gl : Nat → Int32} {ln : Int32} {ch : Nat → Int32} {mn : Int32} {md : Nat → Int32} {ml : Nat → Int32} {mk : Int32} {mr : Nat → Int32} {mt : Int32} {mx : Nat → Int32} {mw : Int32} (I : Inv n d lb wi sl kp ct gd gl ln ch mn md ml mk mr mt mx mw) (a0 : Int32) (a1 : Int32) : ∃ r : Int32, mX4_areEqual n d lb a0 a1 = some r ∧ mX5_areEqual mn md ml a0 a1 = some r := by
  obtain ⟨N, F, G, T, M⟩ := I.1
  obtain rfl := T.2.1
  obtain rfl := M.2.1
  obtain ⟨v, rfl, hv1, hv2⟩ := iI_all a0
  obtain ⟨w, rfl, hw1, hw2⟩ := iI_all a1
  unfold mX4_areEqual mX5_areEqual
  rw [hasOf T v hv1 hv2, noNodeOf M v hv1 hv2, hasOf T w hw1 hw2, noNodeOf M w hw1 hw2]
  by_cases c : 0 ≤ v ∧ v < N
  · rw [if_pos c, if_pos c, if_neg e10, if_pos e00]
    by_cases q : 0 ≤ w ∧ w < N
    · rw [if_pos q, if_pos q, if_neg e10, if_pos e00, sameSubtreesOf T v w c.1 c.2 q.1 q.2, alikeOf M v w c.1 c.2 q.1 q.2, Option.bind_some]
      exact ex2 rfl (by (repeat' split) <;> rfl)
    · rw [if_neg q, if_neg q, if_pos e00, if_neg e10]
      exact ⟨_, rfl, rfl⟩
  · rw [if_neg c, if_neg c, if_pos e00, if_neg e10]
    exact ⟨_, rfl, rfl⟩
theorem st_copies {n : Int32} {d : Nat → Int32} {lb : Nat → Int32} {wi : Int32} {sl : Int32} {kp : Int32} {ct : Nat → Int32} {gd : Nat → Int32} {gl : Nat → Int32} {ln : Int32} {ch : Nat → Int32} {mn : Int32} {md : Nat → Int32} {ml : Nat → Int32} {mk : Int32} {mr : Nat → Int32} {mt : Int32} {mx : Nat → Int32} {mw : Int32} (I : Inv n d lb wi sl kp ct gd gl ln ch mn md ml mk mr mt mx mw) (a0 : Int32) : ∃ r : Int32, mX4_copies n d lb a0 = some r ∧ mX5_copies mn md ml a0 = some r := by
  obtain ⟨N, F, G, T, M⟩ := I.1
  obtain rfl := T.2.1
  obtain rfl := M.2.1
  obtain ⟨v, rfl, hv1, hv2⟩ := iI_all a0
  have hN := T.1.nn
  unfold mX4_copies mX5_copies
  rw [hasOf T v hv1 hv2, noNodeOf M v hv1 hv2]
  by_cases c : 0 ≤ v ∧ v < N
  · rw [if_pos c, if_pos c, if_neg e10, if_pos e00, countEqualOf T v c.1 c.2, copies_14 M v c.1 c.2 N.toNat _ 0 0 (by rw [FU_big]; omega) (by omega) (by omega) (by omega) (by omega), Int.zero_add]
    exact ⟨_, rfl, rfl⟩
  · rw [if_neg c, if_neg c, if_pos e00, if_neg e10]
    exact ⟨_, rfl, rfl⟩
theorem st_written {n : Int32} {d : Nat → Int32} {lb : Nat → Int32} {wi : Int32} {sl : Int32} {kp : Int32} {ct : Nat → Int32} {gd : Nat → Int32} {gl : Nat → Int32} {ln : Int32} {ch : Nat → Int32} {mn : Int32} {md : Nat → Int32} {ml : Nat → Int32} {mk : Int32} {mr : Nat → Int32} {mt : Int32} {mx : Nat → Int32} {mw : Int32} (I : Inv n d lb wi sl kp ct gd gl ln ch mn md ml mk mr mt mx mw) (a0 : Int32) : ∃ r : Int32, mX4_written n d lb a0 = some r ∧ mX5_written mn md ml a0 = some r := by
  obtain ⟨N, F, G, T, M⟩ := I.1
  obtain rfl := T.2.1
  obtain rfl := M.2.1
  obtain ⟨q, rfl, hq1, hq2⟩ := iI_all a0
  have hN := T.1.nn
  unfold mX4_written mX5_written
  rw [writtenLengthOf T, writtenAtOf T q hq1 hq2]
  simp (disch := omega) only [iI_zero, iI_len, iI_le, iI_lt, iI_eq, iI_add, iI_sub, iI_mul, Option.bind_some]
  by_cases c : -1 ≤ q
  · rw [if_pos c, if_pos c]
    by_cases m1 : q = -1
    · rw [if_pos m1, m1, written_len M N.toNat _ 0 0 (by rw [FU_big]; omega) (by omega) (by omega) (by omega) (by omega), Int.zero_add]
      exact ⟨_, rfl, rfl⟩
    · rw [if_neg m1, written_at M q (by omega) hq2 N.toNat _ 0 0 (by rw [FU_big]; omega) (by omega) (by omega) (by omega) (by omega) (by omega)]
      exact ⟨_, rfl, rfl⟩
  · rw [if_neg c, if_neg c]
    exact ⟨_, rfl, rfl⟩
theorem st_space {n : Int32} {d : Nat → Int32} {lb : Nat → Int32} {wi : Int32} {sl : Int32} {kp : Int32} {ct : Nat → Int32} {gd : Nat → Int32} {gl : Nat → Int32} {ln : Int32} {ch : Nat → Int32} {mn : Int32} {md : Nat → Int32} {ml : Nat → Int32} {mk : Int32} {mr : Nat → Int32} {mt : Int32} {mx : Nat → Int32} {mw : Int32} (I : Inv n d lb wi sl kp ct gd gl ln ch mn md ml mk mr mt mx mw) (a0 : Int32) : ∃ r : Int32, mX4_space n wi a0 = some r ∧ mX5_space mn mw a0 = some r := by
  obtain ⟨N, F, G, T, M⟩ := I.1
  obtain rfl := T.2.1
  obtain rfl := M.2.1
  obtain ⟨w, rfl, rfl, hw1, hw2⟩ := I.2.1
  have hN := T.1.nn
  unfold mX4_space mX5_space mX3_count
  rw [digitsOf N hN.1 hN.2, countForOf N w hN.1 hN.2 hw1 hw2, space_7 N w hN.1 hN.2 hw1 hw2 a0 10 _ 0 N (by rw [FU_big]; omega) (by omega) (by omega) (by omega), Int.zero_add]
  simp (disch := omega) only [iI_zero, iI_len, iI_le, iI_lt, iI_eq, iI_add, iI_sub, iI_mul, Option.bind_some]
  rw [spR, show 2 * N + 5 * N = 7 * N by omega]
  exact ex2 rfl (by (repeat' split) <;> rfl)
theorem st_setWidth {n : Int32} {d : Nat → Int32} {lb : Nat → Int32} {wi : Int32} {sl : Int32} {kp : Int32} {ct : Nat → Int32} {gd : Nat → Int32} {gl : Nat → Int32} {ln : Int32} {ch : Nat → Int32} {mn : Int32} {md : Nat → Int32} {ml : Nat → Int32} {mk : Int32} {mr : Nat → Int32} {mt : Int32} {mx : Nat → Int32} {mw : Int32} (I : Inv n d lb wi sl kp ct gd gl ln ch mn md ml mk mr mt mx mw) (a0 : Int32) : ∃ (RA : Int32 × Int32) (RM : Int32 × Int32), mX4_setWidth wi a0 = RA ∧ mX5_setWidth mw a0 = RM ∧ RA.1 = RM.1 ∧ Inv n d lb RA.2 sl kp ct gd gl ln ch mn md ml mk mr mt mx RM.2 := by
  obtain ⟨w, rfl, rfl, hw1, hw2⟩ := I.2.1
  obtain ⟨z, rfl, hz1, hz2⟩ := iI_all a0
  refine ⟨_, _, rfl, rfl, ?_⟩
  unfold mX4_setWidth mX5_setWidth mX0_changeWidth
  simp (disch := omega) only [iI_zero, iI_len, iI_le, iI_lt, iI_eq, iI_add, iI_sub, iI_mul, Option.bind_some, inOf]
  by_cases c : 4 ≤ z ∧ z ≤ 32
  · rw [if_neg (by omega : ¬ z < 4), if_pos c.2, if_pos c, if_neg (by omega)]
    exact ⟨rfl, I.1, ⟨z, rfl, rfl, c.1, c.2⟩, I.2.2⟩
  · rw [if_neg c, if_pos rfl]
    by_cases t : z < 4
    · rw [if_pos t]
      exact ⟨rfl, I⟩
    · rw [if_neg t, if_neg (by omega)]
      exact ⟨rfl, I⟩
