/-! 56: an edit: what is told, what became of sizes, and that it can be undone (the law's low and edits) -/
theorem lowOf (x : Int32) (n : Int) (h : 1 ≤ n) (h2 : n < 2147483648) : ∃ z : Int, mL_low x (iI n) = some (iI z) ∧ 0 ≤ z ∧ z < n := by
  obtain ⟨q, hq, q1, q2⟩ := iI_all (x &&& (2147483647 : Int32))
  have q0 : 0 ≤ q := by
    have e : q = (x &&& (2147483647 : Int32)).toInt := by rw [hq, iI_toInt q1 q2]
    have m : (x &&& (2147483647 : Int32)).toBitVec.msb = false := by
      rw [Int32.toBitVec_and, BitVec.msb_and, show (2147483647 : Int32).toBitVec.msb = false by decide, Bool.and_false]
    have t : (x &&& (2147483647 : Int32)).toInt = ((x &&& (2147483647 : Int32)).toBitVec.toNat : Int) := BitVec.toInt_eq_toNat_of_msb m
    rw [e, t]
    exact Int.natCast_nonneg _
  have b1 := Int.emod_nonneg q (show n ≠ 0 by omega)
  have b2 := Int.emod_lt_of_pos q (show 0 < n by omega)
  have b3 := Int.emod_def q n
  rw [Int.mul_comm] at b3
  refine ⟨q - q / n * n, ?_, by omega, by omega⟩
  unfold mL_low
  rw [if_pos (show ¬ iI n = 0 by rw [iI_zero, iI_eq (by omega) (by omega) (by omega) (by omega)]; omega), hq, iI_div q0 q2 (by omega) h2, iI_mul, iI_sub]
/-- how an edit ends -/
def EP (N : Int) (r : Option (Int32 × Int32 × (Nat → Int32) × (Nat → Int32) × (Nat → Int32) × (Nat → Int32) × Int32 × Int32 × (Nat → Int32) × (Nat → Int32) × (Nat → Int32))) : Prop := ∃ (N2 S2 K2 : Int) (F2 G2 : Int → Int) (d2 lb2 xd2 xl2 ct2 gd2 gl2 : Nat → Int32), r = some (iI K2, iI N2, d2, lb2, xd2, xl2, iI S2, iI K2, ct2, gd2, gl2) ∧ TR N2 F2 G2 (iI N2) d2 lb2 ∧ HI S2 K2 ct2 gd2 gl2 ∧ N2 ≤ N + 1
section EDS
variable {N S K : Int} {F G : Int → Int} {d lb xd xl ct gd gl : Nat → Int32}
theorem tailEdit {N1 S1 : Int} {F1 G1 : Int → Int} {d1 lb1 : Nat → Int32} (T1 : TR N1 F1 G1 (iI N1) d1 lb1) (H1 : HI S1 (up15 K) ct gd gl) (top : HT (slotOf S1 0) N F G ct gd gl) (hK : 0 ≤ K) (hK2 : K ≤ 15) (x3 : Int32) (told : Int) (h : 0 ≤ told) (h2 : told < 1000) (hN : N1 ≤ N + 1) : EP N (mL_edits_769 (iI N1) d1 lb1 xd xl (iI S1) (iI (up15 K)) ct gd gl x3 (iI K) (Pv N F G) (iI told)) := by
  have ku : 0 < up15 K := by unfold up15; split <;> omega
  unfold mL_edits_769
  rw [if_pos (show 0 ≤ iI told by rw [iI_zero, iI_le (by omega) (by omega) (by omega) (by omega)]; exact h)]
  by_cases c : ((x3 >>> ((iI 20) &&& 31)) &&& (iI 3)) = 0
  · obtain ⟨S2, d2, lb2, w1, w2, w3⟩ := undoOf (iI N1) d1 lb1 H1 ku top
    rw [if_pos c, w1, Option.bind_some]
    dsimp only
    refine ⟨N, S2, up15 K - 1, F, G, d2, lb2, xd, xl, ct, gd, gl, ?_, w2, w3, by omega⟩
    have t : mL_edits_822 (iI N) d2 lb2 xd xl (iI S2) (iI (up15 K - 1)) ct gd gl (Pv N F G) (iI (up15 K - 1)) (iI (up15 K - 1)) (iI (up15 K - 1)) = some (iI (up15 K - 1), iI N, d2, lb2, xd, xl, iI S2, iI (up15 K - 1), ct, gd, gl) := by
      unfold mL_edits_822
      rw [if_pos rfl, printOf w2, Option.bind_some, lg_cmp_self, if_pos rfl]
    by_cases q : K < 15
    · have ue : up15 K - 1 = K := by unfold up15; rw [if_pos q]; omega
      rw [if_neg (show ¬ iI 15 ≤ iI K by rw [iI_le (by omega) (by omega) (by omega) (by omega)]; omega)]
      rw [ue] at t ⊢
      exact t
    · have ue : up15 K - 1 = 14 := by unfold up15; rw [if_neg q]; omega
      rw [if_pos (show iI 15 ≤ iI K by rw [iI_le (by omega) (by omega) (by omega) (by omega)]; omega)]
      rw [ue] at t ⊢
      exact t
  · rw [if_neg c]
    refine ⟨N1, S1, up15 K, F1, G1, d1, lb1, xd, xl, ct, gd, gl, ?_, T1, H1, hN⟩
    unfold mL_edits_858
    by_cases q : K < 15
    · rw [if_neg (show ¬ iI 15 ≤ iI K by rw [iI_le (by omega) (by omega) (by omega) (by omega)]; omega), iI_add]
      unfold up15
      rw [if_pos q]
    · rw [if_pos (show iI 15 ≤ iI K by rw [iI_le (by omega) (by omega) (by omega) (by omega)]; omega)]
      unfold up15
      rw [if_neg q]
theorem tailRef (T : TR N F G (iI N) d lb) (H : HI S K ct gd gl) (x3 : Int32) : EP N (mL_edits_769 (iI N) d lb xd xl (iI S) (iI K) ct gd gl x3 (iI K) (Pv N F G) (iI (-3))) := by
  refine ⟨N, S, K, F, G, d, lb, xd, xl, ct, gd, gl, ?_, T, H, by omega⟩
  unfold mL_edits_769
  rw [if_neg (by decide), printOf T, Option.bind_some, lg_cmp_self, if_pos rfl]
theorem edits_insert (T : TR N F G (iI N) d lb) (H : HI S K ct gd gl) (hN8 : N ≤ 98) (x1 g h : Int32) (hx : ¬ iI 2 ≤ x1) : EP N (mL_edits (iI N) d lb xd xl (iI S) (iI K) ct gd gl x1 g h (iI K)) := by
  have hN := T.1.nn
  obtain ⟨v, a1, v1, v2⟩ := lowOf (g >>> ((iI 4) &&& 31)) N hN.1 (by omega)
  obtain ⟨w, a2, w1, w2⟩ := lowOf (g >>> ((iI 11) &&& 31)) N hN.1 (by omega)
  obtain ⟨z, a3, z1, z2⟩ := lowOf h 5 (by omega) (by omega)
  have cc := T.1.cc v v1 v2
  obtain ⟨k, a4, k1, k2⟩ := lowOf (h >>> ((iI 4) &&& 31)) (Cc F N v + 1) (by omega) (by omega)
  obtain ⟨S', d', lb', ct', gd', gl', r1, T', H', top⟩ := insertOf T H v k (97 + z) v1 v2 k1 (by omega) (by omega) (by omega) (by omega)
  obtain ⟨s1, s2, s3, s4, s5, s6, s7⟩ := T.1.wrapShape v k 0 (97 + z) v1 v2 k1 (Int.le_refl _) (by omega) (Sp F N v k) (Sp F N v k) rfl (by rw [Int.add_zero]) T'.1
  have tl := tailEdit (xd := xd) (xl := xl) T' H' top H.2.2.1 H.2.2.2.1 h (Sp F N v k) (by omega) (by omega) (Int.le_refl _)
  unfold mL_edits mX4_size mX3_count
  rw [a1, Option.bind_some, a2, Option.bind_some, a3, Option.bind_some, nd2 T v v1 v2, Option.bind_some, printOf T, Option.bind_some, if_neg hx]
  simp only [iI_add]
  rw [c16C (by omega) (by omega), a4, Option.bind_some, r1, Option.bind_some]
  dsimp only
  rw [if_neg (show ¬ iI N = iI 100 by rw [iI_eq (by omega) (by omega) (by omega) (by omega)]; omega), if_pos rfl, nd1 T' (Sp F N v k) (by omega) s2, s3, Option.bind_some, if_pos rfl, nd5 T' (Sp F N v k) (by omega) s2, s5, Option.bind_some, if_pos rfl, nd2 T' (Sp F N v k) (by omega) s2, s4, Option.bind_some, if_pos e00, nd10 T' (Sp F N v k) (by omega) s2, s7, Option.bind_some, if_pos rfl, insertNeg T' v _ _ _ v1 (by omega), Option.bind_some]
  dsimp only
  rw [if_pos rfl, insertSign T' v 123 _ _ v1 (by omega) (by omega) (by omega), Option.bind_some]
  dsimp only
  rw [if_pos rfl]
  exact tl
theorem edits_wrap (T : TR N F G (iI N) d lb) (H : HI S K ct gd gl) (hN8 : N ≤ 98) (g h : Int32) : EP N (mL_edits (iI N) d lb xd xl (iI S) (iI K) ct gd gl (iI 2) g h (iI K)) := by
  have hN := T.1.nn
  obtain ⟨v, a1, v1, v2⟩ := lowOf (g >>> ((iI 4) &&& 31)) N hN.1 (by omega)
  obtain ⟨w, a2, w1, w2⟩ := lowOf (g >>> ((iI 11) &&& 31)) N hN.1 (by omega)
  obtain ⟨z, a3, z1, z2⟩ := lowOf h 5 (by omega) (by omega)
  have cc := T.1.cc v v1 v2
  obtain ⟨k, a4, k1, k2⟩ := lowOf (h >>> ((iI 4) &&& 31)) (Cc F N v + 1) (by omega) (by omega)
  obtain ⟨m, a5, m1, m2⟩ := lowOf (h >>> ((iI 9) &&& 31)) (Cc F N v - k + 1) (by omega) (by omega)
  obtain ⟨S', d', lb', ct', gd', gl', r1, T', H', top⟩ := wrapOf T H v k m (97 + z) v1 v2 k1 m1 (by omega) (by omega) (by omega) (by omega)
  obtain ⟨s1, s2, s3, s4, s5, s6, s7⟩ := T.1.wrapShape v k m (97 + z) v1 v2 k1 m1 (by omega) (Sp F N v k) (Sp F N v (k + m)) rfl rfl T'.1
  have tl := tailEdit (xd := xd) (xl := xl) T' H' top H.2.2.1 H.2.2.2.1 h (Sp F N v k) (by omega) (by omega) (Int.le_refl _)
  unfold mL_edits mX4_size mX3_count
  rw [a1, Option.bind_some, a2, Option.bind_some, a3, Option.bind_some, nd2 T v v1 v2, Option.bind_some, printOf T, Option.bind_some, if_pos (by decide), if_pos rfl]
  simp only [iI_add]
  rw [c16C (by omega) (by omega), a4, Option.bind_some, iI_sub, iI_add, a5, Option.bind_some, r1, Option.bind_some]
  dsimp only
  rw [if_neg (show ¬ iI N = iI 100 by rw [iI_eq (by omega) (by omega) (by omega) (by omega)]; omega), if_pos rfl, nd1 T' (Sp F N v k) (by omega) s2, s3, Option.bind_some, if_pos rfl, nd2 T' (Sp F N v k) (by omega) s2, s4, Option.bind_some, if_pos rfl, nd5 T' (Sp F N v k) (by omega) s2, s5, Option.bind_some, if_pos rfl, nd2 T' v v1 (by omega), s6, Option.bind_some, iI_sub, iI_add, if_pos rfl, wrapMany T' v _ _ _ v1 (by omega), Option.bind_some]
  dsimp only
  rw [if_pos rfl]
  exact tl
theorem edits_remove (T : TR N F G (iI N) d lb) (H : HI S K ct gd gl) (hN8 : N ≤ 98) (g h : Int32) : EP N (mL_edits (iI N) d lb xd xl (iI S) (iI K) ct gd gl (iI 3) g h (iI K)) := by
  have hN := T.1.nn
  obtain ⟨v, a1, v1, v2⟩ := lowOf (g >>> ((iI 4) &&& 31)) N hN.1 (by omega)
  obtain ⟨w, a2, w1, w2⟩ := lowOf (g >>> ((iI 11) &&& 31)) N hN.1 (by omega)
  obtain ⟨z, a3, z1, z2⟩ := lowOf h 5 (by omega) (by omega)
  have cc := T.1.cc v v1 v2
  unfold mL_edits mX4_size mX3_count
  rw [a1, Option.bind_some, a2, Option.bind_some, a3, Option.bind_some, nd2 T v v1 v2, Option.bind_some, printOf T, Option.bind_some, if_pos (by decide), if_neg (by decide), if_pos rfl, nd1 T v v1 v2, Option.bind_some]
  by_cases v0 : v = 0
  · subst v0
    rw [if_pos e00]
    unfold mL_edits_369
    rw [removeRoot T, Option.bind_some, if_pos e00]
    dsimp only
    rw [if_pos rfl]
    unfold mL_edits_433
    exact tailRef T H h
  · have pv : 0 < v := by omega
    have pa := T.1.chPa v pv v2
    have cp := T.1.cc (Pa F v) pa.1 (by omega)
    obtain ⟨S', d', lb', ct', gd', gl', r1, T', H', top⟩ := removeOf T H v pv v2
    have sh := T.1.remShape v (Pa F v) pv v2 rfl T'.1
    have tl := tailEdit (xd := xd) (xl := xl) T' H' top H.2.2.1 H.2.2.2.1 h (N - 1) (by omega) (by omega) (by omega)
    have nz : ¬ iI v = 0 := by rw [iI_zero, iI_eq (by omega) (by omega) (by omega) (by omega)]; exact v0
    rw [if_neg nz, nd2 T (Pa F v) pa.1 (by omega), Option.bind_some]
    unfold mL_edits_369 mX4_size mX3_count
    rw [r1, Option.bind_some, if_neg nz]
    dsimp only
    rw [iI_sub, if_pos rfl, if_pos rfl, nd2 T' (Pa F v) pa.1 (by omega), sh, Option.bind_some, iI_sub, iI_add, if_pos rfl]
    unfold mL_edits_433
    exact tl
theorem edits_cut (T : TR N F G (iI N) d lb) (H : HI S K ct gd gl) (hN8 : N ≤ 98) (g h : Int32) : EP N (mL_edits (iI N) d lb xd xl (iI S) (iI K) ct gd gl (iI 4) g h (iI K)) := by
  have hN := T.1.nn
  obtain ⟨v, a1, v1, v2⟩ := lowOf (g >>> ((iI 4) &&& 31)) N hN.1 (by omega)
  obtain ⟨w, a2, w1, w2⟩ := lowOf (g >>> ((iI 11) &&& 31)) N hN.1 (by omega)
  obtain ⟨z, a3, z1, z2⟩ := lowOf h 5 (by omega) (by omega)
  have en := T.1.en v v1 v2
  unfold mL_edits mX4_size mX3_count
  rw [a1, Option.bind_some, a2, Option.bind_some, a3, Option.bind_some, nd2 T v v1 v2, Option.bind_some, printOf T, Option.bind_some, if_pos (by decide), if_neg (by decide), if_neg (by decide), if_pos rfl, nd3 T v v1 v2, Option.bind_some]
  by_cases v0 : v = 0
  · subst v0
    rw [cutRoot T, Option.bind_some, if_pos e00]
    dsimp only
    rw [if_pos rfl]
    unfold mL_edits_494
    exact tailRef T H h
  · have pv : 0 < v := by omega
    obtain ⟨S', d', lb', ct', gd', gl', r1, T', H', top⟩ := cutOf T H v pv v2
    have tl := tailEdit (xd := xd) (xl := xl) T' H' top H.2.2.1 H.2.2.2.1 h (N - (En F N v - v)) (by omega) (by omega) (by omega)
    have nz : ¬ iI v = 0 := by rw [iI_zero, iI_eq (by omega) (by omega) (by omega) (by omega)]; exact v0
    rw [r1, Option.bind_some, if_neg nz]
    dsimp only
    rw [iI_sub, if_pos rfl, if_pos rfl]
    unfold mL_edits_494
    exact tl
theorem edits_set (T : TR N F G (iI N) d lb) (H : HI S K ct gd gl) (hN8 : N ≤ 98) (g h : Int32) : EP N (mL_edits (iI N) d lb xd xl (iI S) (iI K) ct gd gl (iI 6) g h (iI K)) := by
  have hN := T.1.nn
  obtain ⟨v, a1, v1, v2⟩ := lowOf (g >>> ((iI 4) &&& 31)) N hN.1 (by omega)
  obtain ⟨w, a2, w1, w2⟩ := lowOf (g >>> ((iI 11) &&& 31)) N hN.1 (by omega)
  obtain ⟨z, a3, z1, z2⟩ := lowOf h 5 (by omega) (by omega)
  obtain ⟨S', d', lb', ct', gd', gl', r1, T', H', top⟩ := setOf T H v (97 + z) v1 v2 (by omega) (by omega)
  have tl := tailEdit (xd := xd) (xl := xl) T' H' top H.2.2.1 H.2.2.2.1 h 0 (by omega) (by omega) (by omega)
  unfold mL_edits mX4_size mX3_count
  rw [a1, Option.bind_some, a2, Option.bind_some, a3, Option.bind_some, nd2 T v v1 v2, Option.bind_some, printOf T, Option.bind_some, if_pos (by decide), if_neg (by decide), if_neg (by decide), if_neg (by decide), if_neg (by decide), nd10 T v v1 v2, Option.bind_some]
  simp only [iI_add]
  rw [c16C (by omega) (by omega), r1, Option.bind_some]
  dsimp only
  rw [if_pos rfl, if_neg (by decide), nd10 T' v v1 v2, Option.bind_some]
  rw [if_pos (congrArg iI (if_pos rfl)), setBad T' v 90 _ _ v1 v2 (by omega) (by omega), Option.bind_some]
  dsimp only
  rw [if_pos rfl]
  exact tl
/-- moving, where it can't be: below itself -/
theorem move_in (T : TR N F G (iI N) d lb) (H : HI S K ct gd gl) (hN8 : N ≤ 98) (h : Int32) (v w : Int) (v1 : 0 ≤ v) (v2 : v < N) (w1 : v ≤ w) (w2 : w < En F N v) : EP N (mL_edits_529 (iI N) d lb xd xl (iI S) (iI K) ct gd gl h (iI K) (iI N) (iI v) (iI w) (Pv N F G) (iI 1)) := by
  have hN := T.1.nn
  have en := T.1.en v v1 v2
  have cw := T.1.cc w (by omega) (by omega)
  have key : ∀ o : Int, 0 ≤ o → o ≤ 1 → o ≤ Cc F N w → EP N (mL_edits_573 (iI N) d lb xd xl (iI S) (iI K) ct gd gl h (iI K) (iI N) (iI v) (iI w) (Pv N F G) (iI 1) (iI (En F N v - v)) (iI (F (Dp F N v) - F v)) (iI o) (iI (Cc F N w))) := by
    intro o o1 o2 o3
    obtain ⟨k, a4, k1, k2⟩ := lowOf h (Cc F N w - o + 1) (by omega) (by omega)
    unfold mL_edits_573
    rw [iI_sub, iI_add, a4, Option.bind_some, if_neg e10]
    unfold mL_edits_610
    rw [moveIn T _ _ _ v w v1 v2 w1 w2, Option.bind_some, if_neg e10]
    dsimp only
    rw [if_pos rfl]
    unfold mL_edits_703
    exact tailRef T H h
  unfold mL_edits_529
  rw [nd3 T v v1 v2, Option.bind_some, nd4 T v v1 v2, Option.bind_some, nd2 T w (by omega) (by omega), Option.bind_some, nd1 T v v1 v2, Option.bind_some]
  have pb := T.1.paBd v v1 v2
  rw [if_neg (show ¬ iI (Pa F v) = iI w by rw [iI_eq (by omega) (by omega) (by omega) (by omega)]; omega)]
  exact key 0 (by omega) (by omega) (by omega)
theorem move_out (T : TR N F G (iI N) d lb) (H : HI S K ct gd gl) (hN8 : N ≤ 98) (h : Int32) (v w : Int) (v1 : 0 < v) (v2 : v < N) (w1 : 0 ≤ w) (w2 : w < N) (hnot : ¬ (v ≤ w ∧ w < En F N v)) : EP N (mL_edits_529 (iI N) d lb xd xl (iI S) (iI K) ct gd gl h (iI K) (iI N) (iI v) (iI w) (Pv N F G) (iI 0)) := by
  have hN := T.1.nn
  have en := T.1.en v (by omega) v2
  have cw := T.1.cc w w1 w2
  have ob := ofs_bd F v w
  obtain ⟨t, ht⟩ : ∃ t, t = if w < v then w else w - (En F N v - v) := ⟨_, rfl⟩
  obtain ⟨q1, q2, q3, -, -, -⟩ := T.1.mv v w 0 (En F N v - v) t _ v1 v2 w1 w2 hnot rfl ht rfl
  have T1 := T.1.cut v (En F N v - v) v1 v2 rfl
  have cs := T.1.cutShape v w (En F N v - v) t v1 v2 w1 w2 hnot rfl ht T1
  have c1 := T1.cc t q2 q3
  have key : EP N (mL_edits_573 (iI N) d lb xd xl (iI S) (iI K) ct gd gl h (iI K) (iI N) (iI v) (iI w) (Pv N F G) (iI 0) (iI (En F N v - v)) (iI (F (Dp F N v) - F v)) (iI (ofs F v w)) (iI (Cc F N w))) := by
    obtain ⟨k, a4, k1, k2⟩ := lowOf h (Cc F N w - ofs F v w + 1) (by omega) (by omega)
    obtain ⟨S', d', lb', xd', xl', ct', gd', gl', r1, T', H', top⟩ := moveOf (xd := xd) (xl := xl) T H v w k (En F N v - v) t (Sp (cuF F v (En F N v - v)) (N - (En F N v - v)) t k) v1 v2 w1 w2 hnot k1 (by omega) rfl ht rfl
    have T2 := T'.1
    have eN : N - (En F N v - v) + (En F N v - v) = N := by omega
    have R0 : mvR F (cuF F v (En F N v - v)) v t 0 = cuF F v (En F N v - v) t + 1 := by unfold mvR; rw [Int.add_zero]; omega
    have R1 : ∀ i, 0 < i → i < En F N v - v → cuF F v (En F N v - v) t + 1 < mvR F (cuF F v (En F N v - v)) v t i := fun i i1 i2 => by
      have := en.2.2.1 (v + i) (by omega) (by omega)
      unfold mvR
      omega
    have sh := T1.insShape t (Sp (cuF F v (En F N v - v)) (N - (En F N v - v)) t k) (En F N v - v) k (mvR F (cuF F v (En F N v - v)) v t) (fun i => G (v + i)) q2 q3 k1 (by omega) rfl q1 R0 R1 (by rw [eN]; exact T2)
    rw [eN] at sh
    have spb := T1.sp t k q2 q3
    generalize Sp (cuF F v (En F N v - v)) (N - (En F N v - v)) t k = s at r1 T' T2 sh spb
    obtain ⟨s1, s2, s3, s4, s5, s6⟩ := sh
    have sN : s < N := by omega
    have ht2 : F (Dp F N v) - F v = inF (cuF F v (En F N v - v)) (mvR F (cuF F v (En F N v - v)) v t) s (En F N v - v) (Dp (inF (cuF F v (En F N v - v)) (mvR F (cuF F v (En F N v - v)) v t) s (En F N v - v)) N s) - inF (cuF F v (En F N v - v)) (mvR F (cuF F v (En F N v - v)) v t) s (En F N v - v) s := by
      have dv := T.1.dpSpec v (by omega) v2
      have ds := T2.dpSpec s (by omega) sN
      rw [s2] at ds
      have f0 := s6 0 (Int.le_refl _) (by omega)
      rw [Int.add_zero, R0] at f0
      have fa := s6 (Dp F N v - v) (by omega) (by omega)
      have fb := s6 (Dp (inF (cuF F v (En F N v - v)) (mvR F (cuF F v (En F N v - v)) v t) s (En F N v - v)) N s - s) (by omega) (by omega)
      rw [show s + (Dp (inF (cuF F v (En F N v - v)) (mvR F (cuF F v (En F N v - v)) v t) s (En F N v - v)) N s - s) = Dp (inF (cuF F v (En F N v - v)) (mvR F (cuF F v (En F N v - v)) v t) s (En F N v - v)) N s by omega] at fb
      have ma := ds.2.2 (s + (Dp F N v - v)) (by omega) (by omega)
      have mb := dv.2.2 (v + (Dp (inF (cuF F v (En F N v - v)) (mvR F (cuF F v (En F N v - v)) v t) s (En F N v - v)) N s - s)) (by omega) (by omega)
      rw [fa, fb] at ma
      have mv : ∀ i, mvR F (cuF F v (En F N v - v)) v t i = F (v + i) - F v + cuF F v (En F N v - v) t + 1 := fun i => rfl
      rw [fb, f0, mv]
      rw [mv, mv, show v + (Dp F N v - v) = Dp F N v by omega] at ma
      omega
    have tl := tailEdit (xd := xd') (xl := xl') T' H' top H.2.2.1 H.2.2.2.1 h s (by omega) (by omega) (by omega)
    unfold mL_edits_573
    rw [iI_sub, iI_add, a4, Option.bind_some, if_pos e00, moveBad T _ _ v w (Cc F N w - ofs F v w + 1) v1 v2 w1 w2 hnot (by omega) (by omega) (by omega), Option.bind_some]
    dsimp only
    rw [if_pos rfl]
    unfold mL_edits_610 mX4_size mX3_count
    rw [r1, Option.bind_some, if_pos e00]
    dsimp only
    rw [if_pos rfl, nd3 T' s (by omega) sN, s2, Option.bind_some, if_pos (congrArg iI (show s + (En F N v - v) - s = En F N v - v by omega)), nd4 T' s (by omega) sN, ← ht2, Option.bind_some, if_pos rfl, nd5 T' s (by omega) sN, s4, Option.bind_some, if_pos rfl, nd1 T' s (by omega) sN, s3, Option.bind_some, nd2 T' t q2 (by omega), s5, cs, Option.bind_some, iI_add, if_pos rfl]
    unfold mL_edits_703
    exact tl
  unfold mL_edits_529
  rw [nd3 T v (by omega) v2, Option.bind_some, nd4 T v (by omega) v2, Option.bind_some, nd2 T w w1 w2, Option.bind_some, nd1 T v (by omega) v2, Option.bind_some]
  have pb := T.1.paBd v (by omega) v2
  unfold ofs at key
  by_cases q : Pa F v = w
  · rw [if_pos q] at key
    rw [if_pos (congrArg iI q)]
    exact key
  · rw [if_neg q] at key
    rw [if_neg (show ¬ iI (Pa F v) = iI w by rw [iI_eq (by omega) (by omega) (by omega) (by omega)]; exact q)]
    exact key
theorem edits_move (T : TR N F G (iI N) d lb) (H : HI S K ct gd gl) (hN8 : N ≤ 98) (g h : Int32) : EP N (mL_edits (iI N) d lb xd xl (iI S) (iI K) ct gd gl (iI 5) g h (iI K)) := by
  have hN := T.1.nn
  obtain ⟨v, a1, v1, v2⟩ := lowOf (g >>> ((iI 4) &&& 31)) N hN.1 (by omega)
  obtain ⟨w, a2, w1, w2⟩ := lowOf (g >>> ((iI 11) &&& 31)) N hN.1 (by omega)
  obtain ⟨z, a3, z1, z2⟩ := lowOf h 5 (by omega) (by omega)
  have en := T.1.en v v1 v2
  have v0 : v = 0 → En F N v = N := fun q => by rw [q]; exact T.1.en0
  unfold mL_edits mX4_size mX3_count
  rw [a1, Option.bind_some, a2, Option.bind_some, a3, Option.bind_some, nd2 T v v1 v2, Option.bind_some, printOf T, Option.bind_some, if_pos (by decide), if_neg (by decide), if_neg (by decide), if_neg (by decide), if_pos rfl]
  by_cases lt : w < v
  · rw [if_pos (show iI w < iI v by rw [iI_lt (by omega) (by omega) (by omega) (by omega)]; exact lt)]
    unfold mL_edits_528
    exact move_out T H hN8 h v w (by omega) v2 w1 w2 (by omega)
  · rw [if_neg (show ¬ iI w < iI v by rw [iI_lt (by omega) (by omega) (by omega) (by omega)]; exact lt), nd3 T v v1 v2, Option.bind_some, iI_add]
    by_cases ge : v + (En F N v - v) ≤ w
    · rw [if_pos (show iI (v + (En F N v - v)) ≤ iI w by rw [iI_le (by omega) (by omega) (by omega) (by omega)]; exact ge)]
      unfold mL_edits_528
      exact move_out T H hN8 h v w (by omega) v2 w1 w2 (by omega)
    · rw [if_neg (show ¬ iI (v + (En F N v - v)) ≤ iI w by rw [iI_le (by omega) (by omega) (by omega) (by omega)]; exact ge)]
      exact move_in T H hN8 h v w v1 v2 (by omega) (by omega)
theorem edits_ok (T : TR N F G (iI N) d lb) (H : HI S K ct gd gl) (hN8 : N ≤ 98) (sort : Int) (h0 : 0 ≤ sort) (h6 : sort < 7) (g h : Int32) : EP N (mL_edits (iI N) d lb xd xl (iI S) (iI K) ct gd gl (iI sort) g h (iI K)) := by
  by_cases c : sort < 2
  · exact edits_insert T H hN8 _ g h (by rw [iI_le (by omega) (by omega) (by omega) (by omega)]; omega)
  · rcases (show sort = 2 ∨ sort = 3 ∨ sort = 4 ∨ sort = 5 ∨ sort = 6 by omega) with rfl | rfl | rfl | rfl | rfl
    · exact edits_wrap T H hN8 g h
    · exact edits_remove T H hN8 g h
    · exact edits_cut T H hN8 g h
    · exact edits_move T H hN8 g h
    · exact edits_set T H hN8 g h
end EDS
