/-! 40: what the landed code's calls that only read answer, of a tree -/
section FACE
variable {N : Int} {F G : Int → Int} {d lb : Nat → Int32}
theorem TV.opNeCl (T : TV N F G) (u v : Int) (hu : 0 ≤ u) (hu2 : u < N) (h : 0 ≤ v) (h2 : v < N) : 2 * u - F u ≠ 2 * En F N v - F v - 1 := by
  have e := T.en v h h2
  by_cases c : En F N v ≤ u
  · have := T.climbs' (En F N v) u (by omega) c
    omega
  · by_cases q : u ≤ v
    · by_cases z : u = v
      · rw [z]; omega
      · have := T.opUp u v hu (by omega)
        omega
    · have := e.2.2.1 u (by omega) (by omega)
      omega
theorem TV.opInj (T : TV N F G) (u v : Int) (hu : 0 ≤ u) (h : 0 ≤ v) (e : 2 * u - F u = 2 * v - F v) : u = v := by
  rcases Int.lt_trichotomy u v with g | g | g
  · have := T.opUp u v hu g; omega
  · exact g
  · have := T.opUp v u h g; omega
theorem TV.opBd (T : TV N F G) (v : Int) (h : 0 ≤ v) (h2 : v < N) : 0 ≤ 2 * v - F v ∧ 2 * v - F v < 2 * N ∧ 0 ≤ 2 * En F N v - F v - 1 ∧ 2 * En F N v - F v - 1 < 2 * N := by
  have b := T.bdx v
  have e := T.en v h h2
  omega
theorem TV.npOp (T : TV N F G) (v : Int) (h : 0 ≤ v) (h2 : v < N) : Np F N (2 * v - F v) = v ∧ Ex F N (2 * v - F v) = F v + 1 := by
  have b := T.opBd v h h2
  obtain ⟨a1, a2, a3, a4⟩ := T.np (2 * v - F v) b.1 b.2.1
  rcases a4 with ⟨g1, g2⟩ | ⟨g1, -⟩
  · have := T.opInj _ v a2 h g1
    rw [this] at g2
    exact ⟨this, g2⟩
  · exact absurd rfl (g1 v h h2)
theorem TV.npCl (T : TV N F G) (v : Int) (h : 0 ≤ v) (h2 : v < N) : Np F N (2 * En F N v - F v - 1) = v ∧ Ex F N (2 * En F N v - F v - 1) = F v := by
  have b := T.opBd v h h2
  obtain ⟨a1, a2, a3, a4⟩ := T.np (2 * En F N v - F v - 1) b.2.2.1 b.2.2.2
  rcases a4 with ⟨g1, g2⟩ | ⟨g1, g2, g3⟩
  · exact absurd g1 (T.opNeCl _ v a2 a3 h h2)
  · have : Np F N (2 * En F N v - F v - 1) = v := by
      rcases Int.lt_trichotomy (Np F N (2 * En F N v - F v - 1)) v with g | g | g
      · exact absurd (by omega) (T.clNe _ v a2 g h2)
      · exact g
      · exact absurd (by omega) (T.clNe v _ h g a3)
    rw [this] at g3
    exact ⟨this, g3⟩
theorem nd0 (T : TR N F G (iI N) d lb) (v : Int) (h : 0 ≤ v) (h2 : v < N) : mX4_node (iI N) d lb (iI v) (iI 0) = some (iI (F v)) := by
  have hN := T.1.nn
  unfold mX4_node
  rw [hasOf T v (by omega) (by omega), if_pos (show 0 ≤ v ∧ v < N from ⟨h, h2⟩), if_neg e10, if_pos rfl, dOf T v (by omega) (by omega)]
theorem nd1 (T : TR N F G (iI N) d lb) (v : Int) (h : 0 ≤ v) (h2 : v < N) : mX4_node (iI N) d lb (iI v) (iI 1) = some (iI (Pa F v)) := by
  have hN := T.1.nn
  unfold mX4_node
  rw [hasOf T v (by omega) (by omega), if_pos (show 0 ≤ v ∧ v < N from ⟨h, h2⟩), if_neg e10, if_neg (by decide : ¬ iI 1 = iI 0), if_pos rfl, parentOf' T v h h2]
  rfl
theorem nd2 (T : TR N F G (iI N) d lb) (v : Int) (h : 0 ≤ v) (h2 : v < N) : mX4_node (iI N) d lb (iI v) (iI 2) = some (iI (Cc F N v)) := by
  have hN := T.1.nn
  unfold mX4_node
  rw [hasOf T v (by omega) (by omega), if_pos (show 0 ≤ v ∧ v < N from ⟨h, h2⟩), if_neg e10, if_neg (by decide : ¬ iI 2 = iI 0), if_neg (by decide : ¬ iI 2 = iI 1), if_pos rfl, childCountOf T v h h2]
  rfl
theorem nd3 (T : TR N F G (iI N) d lb) (v : Int) (h : 0 ≤ v) (h2 : v < N) : mX4_node (iI N) d lb (iI v) (iI 3) = some (iI (En F N v - v)) := by
  have hN := T.1.nn
  unfold mX4_node
  rw [hasOf T v (by omega) (by omega), if_pos (show 0 ≤ v ∧ v < N from ⟨h, h2⟩), if_neg e10, if_neg (by decide : ¬ iI 3 = iI 0), if_neg (by decide : ¬ iI 3 = iI 1), if_neg (by decide : ¬ iI 3 = iI 2), if_pos rfl, sizeOf' T v h h2]
  rfl
theorem nd4 (T : TR N F G (iI N) d lb) (v : Int) (h : 0 ≤ v) (h2 : v < N) : mX4_node (iI N) d lb (iI v) (iI 4) = some (iI (F (Dp F N v) - F v)) := by
  have hN := T.1.nn
  have dp := T.1.dp v h h2
  unfold mX4_node
  rw [hasOf T v (by omega) (by omega), if_pos (show 0 ≤ v ∧ v < N from ⟨h, h2⟩), if_neg e10, if_neg (by decide : ¬ iI 4 = iI 0), if_neg (by decide : ¬ iI 4 = iI 1), if_neg (by decide : ¬ iI 4 = iI 2), if_neg (by decide : ¬ iI 4 = iI 3), if_pos rfl, deepestOf' T v h h2]
  rw [Option.bind_some, dOf T _ (by omega) (by omega), dOf T v (by omega) (by omega), iI_sub]
theorem nd5 (T : TR N F G (iI N) d lb) (v : Int) (h : 0 ≤ v) (h2 : v < N) : mX4_node (iI N) d lb (iI v) (iI 5) = some (iI (Pl F (F v) v.toNat (v - 1))) := by
  have hN := T.1.nn
  unfold mX4_node
  rw [hasOf T v (by omega) (by omega), if_pos (show 0 ≤ v ∧ v < N from ⟨h, h2⟩), if_neg e10, if_neg (by decide : ¬ iI 5 = iI 0), if_neg (by decide : ¬ iI 5 = iI 1), if_neg (by decide : ¬ iI 5 = iI 2), if_neg (by decide : ¬ iI 5 = iI 3), if_neg (by decide : ¬ iI 5 = iI 4), if_pos rfl, placeOf' T v h h2]
  rfl
theorem nd6 (T : TR N F G (iI N) d lb) (v : Int) (h : 0 ≤ v) (h2 : v < N) : mX4_node (iI N) d lb (iI v) (iI 6) = some (iI (cnt (Lf F) (En F N v - v).toNat v)) := by
  have hN := T.1.nn
  unfold mX4_node
  rw [hasOf T v (by omega) (by omega), if_pos (show 0 ≤ v ∧ v < N from ⟨h, h2⟩), if_neg e10, if_neg (by decide : ¬ iI 6 = iI 0), if_neg (by decide : ¬ iI 6 = iI 1), if_neg (by decide : ¬ iI 6 = iI 2), if_neg (by decide : ¬ iI 6 = iI 3), if_neg (by decide : ¬ iI 6 = iI 4), if_neg (by decide : ¬ iI 6 = iI 5), if_pos rfl, leafCountOf T v h h2]
  rfl
theorem nd7 (T : TR N F G (iI N) d lb) (v : Int) (h : 0 ≤ v) (h2 : v < N) : mX4_node (iI N) d lb (iI v) (iI 7) = some (iI (2 * v - F v)) := by
  have hN := T.1.nn
  unfold mX4_node
  rw [hasOf T v (by omega) (by omega), if_pos (show 0 ≤ v ∧ v < N from ⟨h, h2⟩), if_neg e10, if_neg (by decide : ¬ iI 7 = iI 0), if_neg (by decide : ¬ iI 7 = iI 1), if_neg (by decide : ¬ iI 7 = iI 2), if_neg (by decide : ¬ iI 7 = iI 3), if_neg (by decide : ¬ iI 7 = iI 4), if_neg (by decide : ¬ iI 7 = iI 5), if_neg (by decide : ¬ iI 7 = iI 6), if_pos rfl, openingOf' T v (by omega) (by omega)]
theorem nd8 (T : TR N F G (iI N) d lb) (v : Int) (h : 0 ≤ v) (h2 : v < N) : mX4_node (iI N) d lb (iI v) (iI 8) = some (iI (2 * v - F v + 2 * (En F N v - v) - 1)) := by
  have hN := T.1.nn
  unfold mX4_node
  rw [hasOf T v (by omega) (by omega), if_pos (show 0 ≤ v ∧ v < N from ⟨h, h2⟩), if_neg e10, if_neg (by decide : ¬ iI 8 = iI 0), if_neg (by decide : ¬ iI 8 = iI 1), if_neg (by decide : ¬ iI 8 = iI 2), if_neg (by decide : ¬ iI 8 = iI 3), if_neg (by decide : ¬ iI 8 = iI 4), if_neg (by decide : ¬ iI 8 = iI 5), if_neg (by decide : ¬ iI 8 = iI 6), if_neg (by decide : ¬ iI 8 = iI 7), if_pos rfl, closingOf' T v h h2]
  rfl
theorem nd9 (T : TR N F G (iI N) d lb) (v : Int) (h : 0 ≤ v) (h2 : v < N) : mX4_node (iI N) d lb (iI v) (iI 9) = some (iI (Rk F N v)) := by
  have hN := T.1.nn
  unfold mX4_node
  rw [hasOf T v (by omega) (by omega), if_pos (show 0 ≤ v ∧ v < N from ⟨h, h2⟩), if_neg e10, if_neg (by decide : ¬ iI 9 = iI 0), if_neg (by decide : ¬ iI 9 = iI 1), if_neg (by decide : ¬ iI 9 = iI 2), if_neg (by decide : ¬ iI 9 = iI 3), if_neg (by decide : ¬ iI 9 = iI 4), if_neg (by decide : ¬ iI 9 = iI 5), if_neg (by decide : ¬ iI 9 = iI 6), if_neg (by decide : ¬ iI 9 = iI 7), if_neg (by decide : ¬ iI 9 = iI 8), if_pos rfl, postorderOf' T v h h2]
  rfl
theorem nd10 (T : TR N F G (iI N) d lb) (v : Int) (h : 0 ≤ v) (h2 : v < N) : mX4_node (iI N) d lb (iI v) (iI 10) = some (iI (G v)) := by
  have hN := T.1.nn
  unfold mX4_node
  rw [hasOf T v (by omega) (by omega), if_pos (show 0 ≤ v ∧ v < N from ⟨h, h2⟩), if_neg e10, if_neg (by decide : ¬ iI 10 = iI 0), if_neg (by decide : ¬ iI 10 = iI 1), if_neg (by decide : ¬ iI 10 = iI 2), if_neg (by decide : ¬ iI 10 = iI 3), if_neg (by decide : ¬ iI 10 = iI 4), if_neg (by decide : ¬ iI 10 = iI 5), if_neg (by decide : ¬ iI 10 = iI 6), if_neg (by decide : ¬ iI 10 = iI 7), if_neg (by decide : ¬ iI 10 = iI 8), if_neg (by decide : ¬ iI 10 = iI 9), if_pos rfl, lOf T v h h2]
theorem nb0 (T : TR N F G (iI N) d lb) (v : Int) (h : 0 ≤ v) (h2 : v < N) : mX4_neighbour (iI N) d (iI v) (iI 0) = some (iI (Nx F N v)) := by
  have hN := T.1.nn
  unfold mX4_neighbour
  rw [hasOf T v (by omega) (by omega), if_pos (show 0 ≤ v ∧ v < N from ⟨h, h2⟩), if_neg e10, if_pos rfl, nextSiblingOf T v h h2]
  rfl
theorem nb1 (T : TR N F G (iI N) d lb) (v : Int) (h : 0 ≤ v) (h2 : v < N) : mX4_neighbour (iI N) d (iI v) (iI 1) = some (iI (Sb F v)) := by
  have hN := T.1.nn
  unfold mX4_neighbour
  rw [hasOf T v (by omega) (by omega), if_pos (show 0 ≤ v ∧ v < N from ⟨h, h2⟩), if_neg e10, if_neg (by decide : ¬ iI 1 = iI 0), if_pos rfl, previousSiblingOf T v h h2]
  rfl
theorem nb2 (T : TR N F G (iI N) d lb) (v : Int) (h : 0 ≤ v) (h2 : v < N) : mX4_neighbour (iI N) d (iI v) (iI 2) = some (iI (orElse N (fst (fun y => decide (F y = F v)) (N - v - 1).toNat (v + 1)) (-5))) := by
  have hN := T.1.nn
  unfold mX4_neighbour
  rw [hasOf T v (by omega) (by omega), if_pos (show 0 ≤ v ∧ v < N from ⟨h, h2⟩), if_neg e10, if_neg (by decide : ¬ iI 2 = iI 0), if_neg (by decide : ¬ iI 2 = iI 1), if_pos rfl, nextAtDepthOf T v h h2]
  rfl
theorem nb3 (T : TR N F G (iI N) d lb) (v : Int) (h : 0 ≤ v) (h2 : v < N) : mX4_neighbour (iI N) d (iI v) (iI 3) = some (iI (if Up F (v - 1) (F v) < 0 then -5 else Up F (v - 1) (F v))) := by
  have hN := T.1.nn
  unfold mX4_neighbour
  rw [hasOf T v (by omega) (by omega), if_pos (show 0 ≤ v ∧ v < N from ⟨h, h2⟩), if_neg e10, if_neg (by decide : ¬ iI 3 = iI 0), if_neg (by decide : ¬ iI 3 = iI 1), if_neg (by decide : ¬ iI 3 = iI 2), if_pos rfl, previousAtDepthOf T v h h2]
  rfl
theorem nb4 (T : TR N F G (iI N) d lb) (v : Int) (h : 0 ≤ v) (h2 : v < N) : mX4_neighbour (iI N) d (iI v) (iI 4) = some (iI (orElse N (fst (Lf F) (N - v - 1).toNat (v + 1)) (-5))) := by
  have hN := T.1.nn
  unfold mX4_neighbour
  rw [hasOf T v (by omega) (by omega), if_pos (show 0 ≤ v ∧ v < N from ⟨h, h2⟩), if_neg e10, if_neg (by decide : ¬ iI 4 = iI 0), if_neg (by decide : ¬ iI 4 = iI 1), if_neg (by decide : ¬ iI 4 = iI 2), if_neg (by decide : ¬ iI 4 = iI 3), if_pos rfl, nextLeafOf T v h h2]
  rfl
theorem nb5 (T : TR N F G (iI N) d lb) (v : Int) (h : 0 ≤ v) (h2 : v < N) : mX4_neighbour (iI N) d (iI v) (iI 5) = some (iI (Lc F N v (En F N v - v - 1).toNat (v + 1) (-5) 0)) := by
  have hN := T.1.nn
  unfold mX4_neighbour
  rw [hasOf T v (by omega) (by omega), if_pos (show 0 ≤ v ∧ v < N from ⟨h, h2⟩), if_neg e10, if_neg (by decide : ¬ iI 5 = iI 0), if_neg (by decide : ¬ iI 5 = iI 1), if_neg (by decide : ¬ iI 5 = iI 2), if_neg (by decide : ¬ iI 5 = iI 3), if_neg (by decide : ¬ iI 5 = iI 4), if_pos rfl, largestChildOf T v h h2]
  rfl
theorem brAll (T : TR N F G (iI N) d lb) (p : Int) (x2 : Int32) (h : 0 ≤ p) (h2 : p < 2 * N) : mX4_bracket (iI N) d (iI p) x2 = (if x2 = iI 0 then some (iI (if 2 * Np F N p - F (Np F N p) = p then 1 else 0)) else if x2 = iI 1 then some (iI (Ex F N p)) else if x2 = iI 2 then some (iI (if 2 * Np F N p - F (Np F N p) = p then 2 * Np F N p - F (Np F N p) + 2 * (En F N (Np F N p) - Np F N p) - 1 else 2 * Np F N p - F (Np F N p))) else if x2 = iI 3 then some (iI (if Np F N p = 0 then -5 else 2 * Pa F (Np F N p) - F (Pa F (Np F N p)))) else if x2 = iI 4 then some (iI (Np F N p)) else some (iI (-2))) := by
  have hN := T.1.nn
  obtain ⟨a1, a2, a3, a4⟩ := T.1.np p h h2
  unfold mX4_bracket mX3_positionCount
  rw [iI_mul, if_neg (show ¬ iI p < 0 by rw [iI_zero, iI_lt (by omega) (by omega) (by omega) (by omega)]; omega), if_pos (show iI p < iI (2 * N) by rw [iI_lt (by omega) (by omega) (by omega) (by omega)]; omega), nodeOfPositionOf T p h h2]
  simp only [Option.bind_some]
  rw [iI_add, excessBeforeOf T (p + 1) (by omega) (by omega), show 2 * Ob F N (p + 1) - (p + 1) = Ex F N p from rfl]
  clear a4
  generalize Np F N p = u at a2 a3 ⊢
  have bu := T.1.bd u
  rw [openingOf' T u (by omega) (by omega), closingOf' T u a2 a3, parentOf' T u a2 a3]
  simp only [Option.bind_some, if_neg e10, if_pos e00]
  have ce : (iI (2 * u - F u) = iI p) = (2 * u - F u = p) := iI_eq (by omega) (by omega) (by omega) (by omega)
  have cz : (iI u = 0) = (u = 0) := by rw [iI_zero, iI_eq (by omega) (by omega) (by omega) (by omega)]
  have pz : u ≠ 0 → mX3_openingOf (iI N) d (iI (Pa F u)) = iI (2 * Pa F u - F (Pa F u)) := fun q => by
    have pa := T.1.paSpec u (by omega) a3
    exact openingOf' T (Pa F u) (by omega) (by omega)
  simp only [ce, cz]
  by_cases c : 2 * u - F u = p
  · simp only [if_pos c]
    by_cases z : u = 0
    · simp only [if_pos z]
    · simp only [if_neg z, pz z]
  · simp only [if_neg c]
    by_cases z : u = 0
    · simp only [if_pos z]
    · simp only [if_neg z, pz z]
theorem boK (T : TR N F G (iI N) d lb) (v : Int) (x2 : Int32) (h : 0 ≤ v) (h2 : v < N) : mX4_bracket (iI N) d (iI (2 * v - F v)) x2 = (if x2 = iI 0 then some (iI 1) else if x2 = iI 1 then some (iI (F v + 1)) else if x2 = iI 2 then some (iI (2 * v - F v + 2 * (En F N v - v) - 1)) else if x2 = iI 3 then some (iI (if v = 0 then -5 else 2 * Pa F v - F (Pa F v))) else if x2 = iI 4 then some (iI v) else some (iI (-2))) := by
  have b := T.1.opBd v h h2
  have n := T.1.npOp v h h2
  rw [brAll T _ x2 b.1 b.2.1, n.1, n.2, if_pos rfl, if_pos rfl]
theorem bcK (T : TR N F G (iI N) d lb) (v : Int) (x2 : Int32) (h : 0 ≤ v) (h2 : v < N) : mX4_bracket (iI N) d (iI (2 * v - F v + 2 * (En F N v - v) - 1)) x2 = (if x2 = iI 0 then some (iI 0) else if x2 = iI 1 then some (iI (F v)) else if x2 = iI 2 then some (iI (2 * v - F v)) else if x2 = iI 3 then some (iI (if v = 0 then -5 else 2 * Pa F v - F (Pa F v))) else if x2 = iI 4 then some (iI v) else some (iI (-2))) := by
  have b := T.1.opBd v h h2
  have n := T.1.npCl v h h2
  have o := T.1.opNeCl v v h h2 h h2
  rw [show 2 * v - F v + 2 * (En F N v - v) - 1 = 2 * En F N v - F v - 1 by omega, brAll T _ x2 b.2.2.1 b.2.2.2, n.1, n.2, if_neg o, if_neg o]
theorem chOf (T : TR N F G (iI N) d lb) (v k : Int) (h : 0 ≤ v) (h2 : v < N) (hk : 0 ≤ k) (hk2 : k < 2147483648) : mX4_child (iI N) d (iI v) (iI k) = some (iI (if k < Cc F N v then Sp F N v k else -5)) := by
  have hN := T.1.nn
  have cb := cnt_bd (Ch F v) (En F N v - v - 1).toNat (v + 1)
  have e := T.1.en v h h2
  have cc : 0 ≤ Cc F N v ∧ Cc F N v ≤ 100 := by unfold Cc; omega
  unfold mX4_child
  rw [hasOf T v (by omega) (by omega), if_pos (show 0 ≤ v ∧ v < N from ⟨h, h2⟩), if_neg e10, if_pos (show 0 ≤ iI k by rw [iI_zero, iI_le (by omega) (by omega) (by omega) (by omega)]; exact hk), childCountOf T v h h2, Option.bind_some]
  by_cases c : k < Cc F N v
  · rw [if_neg (show ¬ iI (Cc F N v) ≤ iI k by rw [iI_le (by omega) (by omega) (by omega) (by omega)]; omega), if_pos c, startOfPlaceOf T v k h h2 (by omega) (by omega)]
    rfl
  · rw [if_pos (show iI (Cc F N v) ≤ iI k by rw [iI_le (by omega) (by omega) (by omega) (by omega)]; omega), if_neg c]
theorem chNeg (T : TR N F G (iI N) d lb) (v : Int) (h : 0 ≤ v) (h2 : v < N) : mX4_child (iI N) d (iI v) (iI (-1)) = some (iI (-2)) := by
  have hN := T.1.nn
  unfold mX4_child
  rw [hasOf T v (by omega) (by omega), if_pos (show 0 ≤ v ∧ v < N from ⟨h, h2⟩), if_neg e10, if_neg (by decide)]
theorem aaOf (T : TR N F G (iI N) d lb) (v e : Int) (h : 0 ≤ v) (h2 : v < N) (he : 0 ≤ e) (he2 : e ≤ F v) : mX4_ancestorAt (iI N) d (iI v) (iI e) = some (iI (Up F v e)) := by
  have hN := T.1.nn
  have b := T.1.bd v
  unfold mX4_ancestorAt
  rw [hasOf T v (by omega) (by omega), if_pos (show 0 ≤ v ∧ v < N from ⟨h, h2⟩), if_neg e10, if_neg (show ¬ iI e < 0 by rw [iI_zero, iI_lt (by omega) (by omega) (by omega) (by omega)]; omega), dOf T v (by omega) (by omega), if_pos (show iI e ≤ iI (F v) by rw [iI_le (by omega) (by omega) (by omega) (by omega)]; omega), climbIn T v e h h2 he he2]
  rfl
theorem aaOver (T : TR N F G (iI N) d lb) (v e : Int) (h : 0 ≤ v) (h2 : v < N) (he : F v < e) (he2 : e < 2147483648) : mX4_ancestorAt (iI N) d (iI v) (iI e) = some (iI (-2)) := by
  have hN := T.1.nn
  have b := T.1.bd v
  unfold mX4_ancestorAt
  rw [hasOf T v (by omega) (by omega), if_pos (show 0 ≤ v ∧ v < N from ⟨h, h2⟩), if_neg e10, if_neg (show ¬ iI e < 0 by rw [iI_zero, iI_lt (by omega) (by omega) (by omega) (by omega)]; omega), dOf T v (by omega) (by omega), if_neg (show ¬ iI e ≤ iI (F v) by rw [iI_le (by omega) (by omega) (by omega) (by omega)]; omega)]
/-- what is common to two nodes -/
def Cq (F : Int → Int) (v w : Int) : Int := Cm F (if w < v then w else v) (if v < w then w else v)
theorem Cq_comm (F : Int → Int) (v w : Int) : Cq F w v = Cq F v w := by
  unfold Cq
  rcases Int.lt_trichotomy v w with g | g | g
  · rw [if_pos g, if_neg (by omega), if_neg (by omega), if_pos g]
  · rw [g]
  · rw [if_neg (by omega), if_pos g, if_pos g, if_neg (by omega)]
/-- the common one, and the two ways down from it -/
theorem TV.cq (T : TV N F G) (v w : Int) (h : 0 ≤ v) (h2 : v < N) (h3 : 0 ≤ w) (h4 : w < N) : 0 ≤ Cq F v w ∧ Cq F v w ≤ v ∧ Cq F v w ≤ w ∧ F (Cq F v w) ≤ F v ∧ F (Cq F v w) ≤ F w ∧ Up F v (F (Cq F v w)) = Cq F v w ∧ Up F w (F (Cq F v w)) = Cq F v w ∧ (∀ x, Cq F v w < x → x ≤ v → x ≤ w → ¬ ((∀ y, x < y → y ≤ v → F x < F y) ∧ (∀ y, x < y → y ≤ w → F x < F y))) := by
  have key : ∀ u z, 0 ≤ u → u ≤ z → z < N → 0 ≤ Cm F u z ∧ Cm F u z ≤ u ∧ F (Cm F u z) ≤ F u ∧ F (Cm F u z) ≤ F z ∧ Up F u (F (Cm F u z)) = Cm F u z ∧ Up F z (F (Cm F u z)) = Cm F u z ∧ (∀ x, Cm F u z < x → x ≤ u → ¬ (∀ y, x < y → y ≤ z → F x < F y)) := by
    intro u z g1 g2 g3
    obtain ⟨c1, c2, c3, c4⟩ := T.cm u z g1 g2 g3
    refine ⟨c1, c2, ?_, ?_, T.upEq u _ _ c1 c2 rfl (fun y q1 q2 => by have := c3 y q2 (by omega); omega), T.upEq z _ _ c1 (by omega) rfl (fun y q1 q2 => by have := c3 y q2 q1; omega), c4⟩
    · by_cases q : Cm F u z = u
      · rw [q]; exact Int.le_refl _
      · have := c3 u (by omega) g2; omega
    · by_cases q : Cm F u z = z
      · rw [q]; exact Int.le_refl _
      · have := c3 z (by omega) (Int.le_refl _); omega
  unfold Cq
  by_cases g : w < v
  · rw [if_pos g, if_neg (by omega)]
    obtain ⟨c1, c2, c3, c4, c5, c6, c7⟩ := key w v h3 (by omega) h2
    exact ⟨c1, by omega, c2, c4, c3, c6, c5, fun x q1 q2 q3 q4 => c7 x q1 q3 q4.1⟩
  · rw [if_neg g]
    by_cases q : v < w
    · rw [if_pos q]
      obtain ⟨c1, c2, c3, c4, c5, c6, c7⟩ := key v w h (by omega) h4
      exact ⟨c1, c2, by omega, c3, c4, c5, c6, fun x q1 q2 q3 q4 => c7 x q1 q2 q4.2⟩
    · have e : v = w := by omega
      rw [if_neg q]
      subst e
      obtain ⟨c1, c2, c3, c4, c5, c6, c7⟩ := key v v h (by omega) h2
      exact ⟨c1, c2, c2, c3, c3, c5, c5, fun x q1 q2 q3 q4 => c7 x q1 q2 q4.1⟩
theorem cmOf (T : TR N F G (iI N) d lb) (v w : Int) (h : 0 ≤ v) (h2 : v < N) (h3 : 0 ≤ w) (h4 : w < N) : mX4_common (iI N) d (iI v) (iI w) = some (iI (Cq F v w)) := by
  have hN := T.1.nn
  unfold mX4_common Cq
  rw [hasOf T v (by omega) (by omega), hasOf T w (by omega) (by omega), if_pos (show 0 ≤ v ∧ v < N from ⟨h, h2⟩), if_pos (show 0 ≤ w ∧ w < N from ⟨h3, h4⟩), if_neg e10, if_neg e10, meetingOf' T v w h h2 h3 h4]
  rfl
/-- the k-th of the way, by the depth c of the common one -/
def Wy (F : Int → Int) (v w k : Int) : Int := if F v - F (Cq F v w) < k then Up F w (F (Cq F v w) + k - (F v - F (Cq F v w))) else Up F v (F v - k)
/-- steps of the way -/
def Ws (F : Int → Int) (v w : Int) : Int := F v - F (Cq F v w) + F w - F (Cq F v w)
theorem wyAll (T : TR N F G (iI N) d lb) (v w k : Int) (h : 0 ≤ v) (h2 : v < N) (h3 : 0 ≤ w) (h4 : w < N) (hk : -1 ≤ k) (hk2 : k < 2147483648) : mX4_way (iI N) d (iI v) (iI w) (iI k) = some (iI (if k = -1 then Ws F v w else if k ≤ Ws F v w then Wy F v w k else -5)) := by
  have hN := T.1.nn
  have cq := T.1.cq v w h h2 h3 h4
  have bc := T.1.bd (Cq F v w)
  have bv := T.1.bd v
  have bw := T.1.bd w
  unfold mX4_way
  rw [hasOf T v (by omega) (by omega), hasOf T w (by omega) (by omega), if_pos (show 0 ≤ v ∧ v < N from ⟨h, h2⟩), if_pos (show 0 ≤ w ∧ w < N from ⟨h3, h4⟩), if_neg e10, if_neg e10, meetingOf' T v w h h2 h3 h4, show Cm F (if w < v then w else v) (if v < w then w else v) = Cq F v w from rfl]
  rw [if_pos (show iI (-1) ≤ iI k by rw [iI_le (by omega) (by omega) (by omega) (by omega)]; exact hk), Option.bind_some, dOf T v (by omega) (by omega), dOf T w (by omega) (by omega), dOf T (Cq F v w) (by omega) (by omega), iI_sub, iI_add, iI_sub, iI_add, iI_sub, iI_sub]
  unfold Ws Wy
  by_cases m : k = -1
  · rw [if_pos m, if_pos (by rw [m])]
  · rw [if_neg m, if_neg (show ¬ iI k = iI (-1) by rw [iI_eq (by omega) (by omega) (by omega) (by omega)]; exact m)]
    by_cases q : k ≤ F v - F (Cq F v w) + F w - F (Cq F v w)
    · rw [if_pos q, if_pos (show iI k ≤ iI (F v - F (Cq F v w) + F w - F (Cq F v w)) by rw [iI_le (by omega) (by omega) (by omega) (by omega)]; exact q)]
      by_cases t : F v - F (Cq F v w) < k
      · rw [if_pos t, if_pos (show iI (F v - F (Cq F v w)) < iI k by rw [iI_lt (by omega) (by omega) (by omega) (by omega)]; exact t), climbIn T w _ h3 h4 (by omega) (by omega)]
        rfl
      · rw [if_neg t, if_neg (show ¬ iI (F v - F (Cq F v w)) < iI k by rw [iI_lt (by omega) (by omega) (by omega) (by omega)]; exact t), climbIn T v _ h h2 (by omega) (by omega)]
        rfl
    · rw [if_neg q, if_neg (show ¬ iI k ≤ iI (F v - F (Cq F v w) + F w - F (Cq F v w)) by rw [iI_le (by omega) (by omega) (by omega) (by omega)]; exact q)]
theorem wyBad (T : TR N F G (iI N) d lb) (v w : Int) (h : 0 ≤ v) (h2 : v < N) (h3 : 0 ≤ w) (h4 : w < N) : mX4_way (iI N) d (iI v) (iI w) (iI (-2)) = some (iI (-2)) := by
  have hN := T.1.nn
  unfold mX4_way
  rw [hasOf T v (by omega) (by omega), hasOf T w (by omega) (by omega), if_pos (show 0 ≤ v ∧ v < N from ⟨h, h2⟩), if_pos (show 0 ≤ w ∧ w < N from ⟨h3, h4⟩), if_neg e10, if_neg e10, if_neg (by decide)]
/-- nodes of a depth -/
def Lv (F : Int → Int) (e : Int) : Int → Bool := fun y => decide (F y = e)
theorem lvCnt (T : TR N F G (iI N) d lb) (e : Int) (he : 0 ≤ e) (he2 : e < 2147483648) : mX4_level (iI N) d (iI e) (iI (-1)) = some (iI (cnt (Lv F e) N.toNat 0)) := by
  have hN := T.1.nn
  unfold mX4_level mX3_countAtDepth Lv
  rw [if_neg (show ¬ iI e < 0 by rw [iI_zero, iI_lt (by omega) (by omega) (by omega) (by omega)]; omega), if_pos (by decide), if_pos rfl, countAtDepth_4 T e (by omega) (by omega) N.toNat _ 0 0 (by rw [FU_big]; omega) (by omega) (by omega) (by omega) (by omega), Int.zero_add]
  rfl
theorem lvK (T : TR N F G (iI N) d lb) (e j : Int) (he : 0 ≤ e) (he2 : e < 2147483648) (hj : 0 ≤ j) (hj2 : j < 2147483648) : mX4_level (iI N) d (iI e) (iI j) = some (iI (kth (Lv F e) (-5) N.toNat 0 j)) := by
  have hN := T.1.nn
  unfold mX4_level mX3_findAtDepth Lv
  rw [if_neg (show ¬ iI e < 0 by rw [iI_zero, iI_lt (by omega) (by omega) (by omega) (by omega)]; omega), if_pos (show iI (-1) ≤ iI j by rw [iI_le (by omega) (by omega) (by omega) (by omega)]; omega), if_neg (show ¬ iI j = iI (-1) by rw [iI_eq (by omega) (by omega) (by omega) (by omega)]; omega), findAtDepth_5 T e j (by omega) (by omega) (by omega) (by omega) N.toNat _ 0 0 (by rw [FU_big]; omega) (by omega) (by omega) (by omega) (by omega), Int.sub_zero]
  rfl
theorem lvBad1 (T : TR N F G (iI N) d lb) : mX4_level (iI N) d (iI (-1)) (iI 0) = some (iI (-2)) := by
  unfold mX4_level
  rw [if_pos (by decide)]
theorem lvBad2 (T : TR N F G (iI N) d lb) : mX4_level (iI N) d (iI 0) (iI (-2)) = some (iI (-2)) := by
  unfold mX4_level
  rw [if_neg (by decide), if_neg (by decide)]
theorem bpOf (T : TR N F G (iI N) d lb) (v : Int) (h : 0 ≤ v) (h2 : v < N) : mX4_byPostorder (iI N) d (iI (Rk F N v)) = some (iI v) := by
  have hN := T.1.nn
  have r := T.1.rk v h h2
  have e : fst (fun y => decide (Rk F N y = Rk F N v)) N.toNat 0 = v := fst_eq _ _ _ _ h (by omega) (fun y q1 q2 => by have := T.1.rkNe y v q1 q2 h2; simpa using this) (fun _ => by simp)
  unfold mX4_byPostorder mX3_count
  rw [if_neg (show ¬ iI (Rk F N v) < 0 by rw [iI_zero, iI_lt (by omega) (by omega) (by omega) (by omega)]; omega), if_pos (show iI (Rk F N v) < iI N by rw [iI_lt (by omega) (by omega) (by omega) (by omega)]; omega), findByPostorderOf T _ (by omega) (by omega), e, orElse, if_neg (by omega)]
  rfl
theorem dpOf (T : TR N F G (iI N) d lb) (v : Int) (h : 0 ≤ v) (h2 : v < N) : mX4_deepest (iI N) d (iI v) = some (iI (Dp F N v)) := by
  have hN := T.1.nn
  unfold mX4_deepest
  rw [hasOf T v (by omega) (by omega), if_pos (show 0 ≤ v ∧ v < N from ⟨h, h2⟩), if_neg e10, deepestOf' T v h h2]
  rfl
theorem bkAll (T : TR N F G (iI N) d lb) (w k : Int) (x2 : Int32) (hw : 4 ≤ w) (hw2 : w ≤ 32) (hk : 0 ≤ k) (hk2 : k < Bk N w) : mX4_block (iI N) d (iI w) (iI k) x2 = (if x2 = iI 0 then some (iI (2 * Ob F N (k * w) - k * w)) else if x2 = iI 1 then some (iI (Mi F N ((if 2 * N < k * w + w then 2 * N else k * w + w) - k * w).toNat (k * w) 100)) else if x2 = iI 2 then some (iI (Ma F N ((if 2 * N < k * w + w then 2 * N else k * w + w) - k * w).toNat (k * w) 0)) else if x2 = iI 3 then some (iI ((if 2 * N < k * w + w then 2 * N else k * w + w) - k * w)) else some (iI (-2))) := by
  have hN := T.1.nn
  have bk := Bk_bd N w hN.1 hN.2 hw hw2
  have inn := Bk_in N w k hw hk hk2
  unfold mX4_block
  rw [countForOf N w hN.1 hN.2 hw hw2, if_neg (show ¬ iI k < 0 by rw [iI_zero, iI_lt (by omega) (by omega) (by omega) (by omega)]; omega)]
  simp only [Option.bind_some]
  rw [if_pos (show iI k < iI (Bk N w) by rw [iI_lt (by omega) (by omega) (by omega) (by omega)]; exact hk2)]
  unfold mX0_leastExcess mX0_greatestExcess mX0_positionsOf mX0_endOf mX0_startOf mX3_positionCount
  simp only [iI_mul, iI_add]
  generalize k * w = b at inn ⊢
  have eb : (iMin (iI (b + w)) (iI (2 * N))) = iI (if 2 * N < b + w then 2 * N else b + w) := by
    simp only [iMin]
    simp (disch := omega) only [iI_zero, iI_len, iI_le, iI_lt, iI_eq, iI_add, iI_sub, iI_mul, Option.bind_some, iI_ite]
  rw [eb, openedBeforeOf T b (by omega) (by omega), excessBeforeOf T b (by omega) (by omega)]
  simp only [Option.bind_some]
  have hee : b < (if 2 * N < b + w then 2 * N else b + w) ∧ (if 2 * N < b + w then 2 * N else b + w) ≤ 2 * N := by split <;> omega
  generalize (if 2 * N < b + w then 2 * N else b + w) = e at hee ⊢
  rw [leastExcess_29 T _ _ e hee.2 (e - b).toNat _ b 100 (by rw [FU_big]; omega) (by omega) (by omega) (by omega) (by omega), greatestExcess_28 T _ _ e hee.2 (e - b).toNat _ b 0 (by rw [FU_big]; omega) (by omega) (by omega) (by omega) (by omega), iI_sub]
  rfl
theorem bkOut (T : TR N F G (iI N) d lb) (w : Int) (x2 : Int32) (hw : 4 ≤ w) (hw2 : w ≤ 32) : mX4_block (iI N) d (iI w) (iI (Bk N w)) x2 = some (iI (-1)) := by
  have hN := T.1.nn
  have bk := Bk_bd N w hN.1 hN.2 hw hw2
  unfold mX4_block
  rw [countForOf N w hN.1 hN.2 hw hw2, if_neg (show ¬ iI (Bk N w) < 0 by rw [iI_zero, iI_lt (by omega) (by omega) (by omega) (by omega)]; omega), Option.bind_some, if_neg (show ¬ iI (Bk N w) < iI (Bk N w) by rw [iI_lt (by omega) (by omega) (by omega) (by omega)]; omega)]
theorem bkNeg (n wi x2 : Int32) (dd : Nat → Int32) : mX4_block n dd wi (iI (-1)) x2 = some (iI (-1)) := by
  unfold mX4_block
  rw [if_pos (by decide)]
theorem spAll (N w : Int) (x1 : Int32) (h : 1 ≤ N) (h2 : N ≤ 100) (h3 : 4 ≤ w) (h4 : w ≤ 32) : mX4_space (iI N) (iI w) x1 = (if x1 = iI 0 then some (iI (2 * N)) else if x1 = iI 1 then some (iI (5 * N)) else if x1 = iI 2 then some (iI (3 * dg 10 N * Bk N w)) else if x1 = iI 3 then some (iI (2 * N + 5 * N + 3 * dg 10 N * Bk N w)) else if x1 = iI 4 then some (iI (Bk N w)) else some (iI (-2))) := by
  unfold mX4_space mX3_count
  rw [digitsOf N h h2, countForOf N w h h2 h3 h4]
  simp only [Option.bind_some, iI_mul, iI_add]
theorem lbOf (T : TR N F G (iI N) d lb) (v g : Int) (h : 0 ≤ v) (h2 : v < N) (hg : 97 ≤ g) (hg2 : g ≤ 122) : mX4_labelled (iI N) d lb (iI v) (iI g) = some (iI (cnt (fun y => decide (G y = g)) (En F N v - v).toNat v)) := by
  have hN := T.1.nn
  unfold mX4_labelled
  rw [hasOf T v (by omega) (by omega), if_pos (show 0 ≤ v ∧ v < N from ⟨h, h2⟩), if_neg e10, letterOf g (by omega) (by omega), if_pos (show 97 ≤ g ∧ g ≤ 122 from ⟨hg, hg2⟩), if_neg e10, countLabelOf T v g h h2 (by omega) (by omega)]
  rfl
theorem slOf (T : TR N F G (iI N) d lb) (v g j : Int) (h : 0 ≤ v) (h2 : v < N) (hg : 97 ≤ g) (hg2 : g ≤ 122) (hj : 0 ≤ j) (hj2 : j < 2147483648) : mX4_select (iI N) d lb (iI v) (iI g) (iI j) = some (iI (kth (fun y => decide (G y = g)) (-5) (En F N v - v).toNat v j)) := by
  have hN := T.1.nn
  unfold mX4_select
  rw [hasOf T v (by omega) (by omega), if_pos (show 0 ≤ v ∧ v < N from ⟨h, h2⟩), if_neg e10, letterOf g (by omega) (by omega), if_pos (show 97 ≤ g ∧ g ≤ 122 from ⟨hg, hg2⟩), if_neg e10, if_pos (show 0 ≤ iI j by rw [iI_zero, iI_le (by omega) (by omega) (by omega) (by omega)]; exact hj), findLabelOf T v g j h h2 (by omega) (by omega) (by omega) (by omega)]
  rfl
theorem slNeg (T : TR N F G (iI N) d lb) (v g : Int) (h : 0 ≤ v) (h2 : v < N) (hg : 97 ≤ g) (hg2 : g ≤ 122) : mX4_select (iI N) d lb (iI v) (iI g) (iI (-1)) = some (iI (-2)) := by
  have hN := T.1.nn
  unfold mX4_select
  rw [hasOf T v (by omega) (by omega), if_pos (show 0 ≤ v ∧ v < N from ⟨h, h2⟩), if_neg e10, letterOf g (by omega) (by omega), if_pos (show 97 ≤ g ∧ g ≤ 122 from ⟨hg, hg2⟩), if_neg e10, if_neg (by decide)]
theorem slBad (T : TR N F G (iI N) d lb) (v g : Int) (x3 : Int32) (h : 0 ≤ v) (h2 : v < N) (hg : 0 ≤ g) (hg2 : g < 97) : mX4_select (iI N) d lb (iI v) (iI g) x3 = some (iI (-2)) := by
  have hN := T.1.nn
  unfold mX4_select
  rw [hasOf T v (by omega) (by omega), if_pos (show 0 ≤ v ∧ v < N from ⟨h, h2⟩), if_neg e10, letterOf g (by omega) (by omega), if_neg (show ¬ (97 ≤ g ∧ g ≤ 122) by omega), if_pos e00]
theorem awOf (T : TR N F G (iI N) d lb) (v g : Int) (h : 0 ≤ v) (h2 : v < N) (hg : 97 ≤ g) (hg2 : g ≤ 122) : mX4_ancestorWith (iI N) d lb (iI v) (iI g) = some (iI (Fa F G g v.toNat (v - 1) (F v))) := by
  have hN := T.1.nn
  unfold mX4_ancestorWith
  rw [hasOf T v (by omega) (by omega), if_pos (show 0 ≤ v ∧ v < N from ⟨h, h2⟩), if_neg e10, letterOf g (by omega) (by omega), if_pos (show 97 ≤ g ∧ g ≤ 122 from ⟨hg, hg2⟩), if_neg e10, findAncestorOf T v g h h2 (by omega) (by omega)]
  rfl
theorem aeOf (T : TR N F G (iI N) d lb) (v w : Int) (h : 0 ≤ v) (h2 : v < N) (h3 : 0 ≤ w) (h4 : w < N) : mX4_areEqual (iI N) d lb (iI v) (iI w) = some (iI (if Eq2 F G N v w = true then 1 else 0)) := by
  have hN := T.1.nn
  unfold mX4_areEqual
  rw [hasOf T v (by omega) (by omega), hasOf T w (by omega) (by omega), if_pos (show 0 ≤ v ∧ v < N from ⟨h, h2⟩), if_pos (show 0 ≤ w ∧ w < N from ⟨h3, h4⟩), if_neg e10, if_neg e10, sameSubtreesOf T v w h h2 h3 h4, Option.bind_some]
  by_cases c : Eq2 F G N v w = true
  · rw [if_pos c, if_neg e10]
  · rw [if_neg c, if_pos e00]
theorem cpOf (T : TR N F G (iI N) d lb) (v : Int) (h : 0 ≤ v) (h2 : v < N) : mX4_copies (iI N) d lb (iI v) = some (iI (cnt (Eq2 F G N v) N.toNat 0)) := by
  have hN := T.1.nn
  unfold mX4_copies
  rw [hasOf T v (by omega) (by omega), if_pos (show 0 ≤ v ∧ v < N from ⟨h, h2⟩), if_neg e10, countEqualOf T v h h2]
  rfl
theorem wrLen (T : TR N F G (iI N) d lb) : mX4_written (iI N) d lb (iI (-1)) = some (iI (Wl F N.toNat 0)) := by
  unfold mX4_written
  rw [if_pos (by decide), if_pos rfl, writtenLengthOf T]
  rfl
theorem wrAt (T : TR N F G (iI N) d lb) (q : Int) (h : 0 ≤ q) (h2 : q < 2147483648) : mX4_written (iI N) d lb (iI q) = some (iI (Wa F G q N.toNat 0 0)) := by
  unfold mX4_written
  rw [if_pos (show iI (-1) ≤ iI q by rw [iI_le (by omega) (by omega) (by omega) (by omega)]; omega), if_neg (show ¬ iI q = iI (-1) by rw [iI_eq (by omega) (by omega) (by omega) (by omega)]; omega), writtenAtOf T q (by omega) h2]
  rfl
theorem wrBad (n : Int32) (dd l2 : Nat → Int32) : mX4_written n dd l2 (iI (-2)) = some (iI (-2)) := by
  unfold mX4_written
  rw [if_neg (by decide)]
end FACE
