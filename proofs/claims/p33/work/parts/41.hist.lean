/-! 41: the kept trees, and the calls that edit, on a state (tree; ring of S, K) -/
section EDITS
variable {N S K : Int} {F G : Int → Int} {d lb ct gd gl : Nat → Int32}
/-- one more is kept, fifteen at most -/
def up15 (K : Int) : Int := if K < 15 then K + 1 else 15
theorem recOf (T : TR N F G (iI N) d lb) (h : HI S K ct gd gl) : ∃ (S' : Int) (ct' gd' gl' : Nat → Int32), mX1_record (iI N) d lb (iI S) (iI K) ct gd gl = some (iI S', iI (up15 K), ct', gd', gl') ∧ HI S' (up15 K) ct' gd' gl' ∧ HT (slotOf S' 0) N F G ct' gd' gl' := by
  obtain ⟨hS, hS2, hK, hK2, hh⟩ := h
  obtain ⟨gd', gl', r1, r2, r3⟩ := recordOf T S K ct gd gl hS hS2 hK hK2
  have hN := T.1.nn
  have top : HT S N F G (upd ct S.toNat (iI N)) gd' gl' := ⟨T.1, upd_in rfl, fun i a b => r2 i a b⟩
  have sp : slotOf (if 15 ≤ S + 1 then 0 else S + 1) 0 = S := by unfold slotOf; split <;> omega
  have ku : (if 15 < K + 1 then (15 : Int) else K + 1) = up15 K := by unfold up15; split <;> split <;> omega
  have kb : 0 ≤ up15 K ∧ up15 K ≤ 15 ∧ up15 K ≤ K + 1 := by unfold up15; split <;> omega
  refine ⟨_, _, _, _, by rw [r1, ku], ⟨by split <;> omega, by split <;> omega, kb.1, kb.2.1, fun j j1 j2 => ?_⟩, by rw [sp]; exact top⟩
  by_cases j0 : j = 0
  · rw [j0, sp]; exact ⟨N, F, G, top⟩
  · have sj : slotOf (if 15 ≤ S + 1 then 0 else S + 1) j = slotOf S (j - 1) := by unfold slotOf; split <;> omega
    obtain ⟨N1, F1, G1, t1, t2, t3⟩ := hh (j - 1) (by omega) (by omega)
    have sn : slotOf S (j - 1) ≠ S ∧ 0 ≤ slotOf S (j - 1) ∧ slotOf S (j - 1) < 15 := by unfold slotOf; omega
    have n1 := t1.nn
    rw [sj]
    refine ⟨N1, F1, G1, t1, by rw [upd_ne (by omega)]; exact t2, fun i a b => ?_⟩
    have := r3 (100 * slotOf S (j - 1) + i).toNat (by omega)
    rw [this.1, this.2]
    exact t3 i a b
theorem undoOf (n : Int32) (d lb : Nat → Int32) (h : HI S K ct gd gl) (hK0 : 0 < K) (top : HT (slotOf S 0) N F G ct gd gl) : ∃ (S' : Int) (d' lb' : Nat → Int32), mX4_undo n d lb (iI S) (iI K) ct gd gl = some (iI (K - 1), iI N, d', lb', iI S', iI (K - 1)) ∧ TR N F G (iI N) d' lb' ∧ HI S' (K - 1) ct gd gl := by
  obtain ⟨hS, hS2, hK, hK2, hh⟩ := h
  obtain ⟨T, g1, g23⟩ := top
  have hN := T.nn
  have e : ¬ iI K = 0 := by rw [iI_zero, iI_eq (by omega) (by omega) (by omega) (by omega)]; omega
  have sp : slotOf S 0 = if S ≤ 0 then 14 else S - 1 := by unfold slotOf; split <;> omega
  rw [sp] at g1 g23
  obtain ⟨p, hp⟩ : ∃ p, p = (if S ≤ 0 then (14 : Int) else S - 1) := ⟨_, rfl⟩
  have hp2 : 0 ≤ p ∧ p < 15 := by rw [hp]; split <;> omega
  rw [← hp] at g1 g23
  obtain ⟨d1, lb1, a1, a2⟩ := recall_63 T (iI p) (iI (K - 1)) ct gd gl p hp2.1 hp2.2 (fun i q1 q2 => (g23 i q1 q2).1) (fun i q1 q2 => (g23 i q1 q2).2) N.toNat FU 0 d lb (by rw [FU_big]; omega) (by omega) (by omega) (fun i q1 q2 => absurd q2 (by omega))
  have ra : mX1_recall n d lb (iI S) (iI K) ct gd gl = some (iI (K - 1), iI N, d1, lb1, iI p, iI (K - 1)) := by
    unfold mX1_recall mX3_empty
    have em : iMax (iI K - iI 1) (iI 0) = iI (K - 1) := by
      simp only [iMax]
      simp (disch := omega) only [iI_zero, iI_len, iI_le, iI_lt, iI_eq, iI_add, iI_sub, iI_mul, Option.bind_some, iI_ite]
      rw [if_neg (by omega)]
    rw [em]
    by_cases q : S ≤ 0
    · rw [if_pos q] at hp
      rw [if_pos (by rw [iI_zero, iI_le (by omega) (by omega) (by omega) (by omega)]; exact q), getOf 15 _ _ (by omega) (by omega) (by omega), iI_mul, ← hp, show p * 100 = 100 * p by omega, g1]
      exact a1
    · rw [if_neg q] at hp
      rw [if_neg (by rw [iI_zero, iI_le (by omega) (by omega) (by omega) (by omega)]; exact q), iI_sub, getOf 15 _ _ (by omega) (by omega) (by omega), iI_mul, ← hp, show p * 100 = 100 * p by omega, g1]
      exact a1
  refine ⟨p, d1, lb1, ?_, ⟨T, rfl, fun i q1 q2 => (a2 i q1 q2).1, fun i q1 q2 => (a2 i q1 q2).2⟩, hp2.1, hp2.2, by omega, by omega, fun j j1 j2 => ?_⟩
  · unfold mX4_undo mX1_isBlank
    rw [if_neg e, if_pos e00, ra]
    rfl
  · have o := hh (j + 1) (by omega) (by omega)
    have sp2 : slotOf p j = slotOf S (j + 1) := by rw [hp]; unfold slotOf; split <;> omega
    rw [sp2]
    exact o
theorem undoNone (n sl : Int32) (d lb ct gd gl : Nat → Int32) : mX4_undo n d lb sl (iI 0) ct gd gl = some (iI (-5), n, d, lb, sl, iI 0) := by
  unfold mX4_undo mX1_isBlank
  rw [if_neg (by decide)]
/-- undone, whatever is there -/
theorem undoAny (n : Int32) (d lb : Nat → Int32) (h : HI S K ct gd gl) (hK0 : 0 < K) : ∃ (N' : Int) (F' G' : Int → Int) (S' : Int) (d' lb' : Nat → Int32), mX4_undo n d lb (iI S) (iI K) ct gd gl = some (iI (K - 1), iI N', d', lb', iI S', iI (K - 1)) ∧ TR N' F' G' (iI N') d' lb' ∧ HI S' (K - 1) ct gd gl := by
  obtain ⟨N', F', G', t⟩ := h.2.2.2.2 0 (Int.le_refl _) hK0
  obtain ⟨S', d', lb', h1, h2, h3⟩ := undoOf n d lb h hK0 t
  exact ⟨N', F', G', S', d', lb', h1, h2, h3⟩
theorem TV.cc (T : TV N F G) (v : Int) (h : 0 ≤ v) (h2 : v < N) : 0 ≤ Cc F N v ∧ Cc F N v ≤ N - v - 1 := by
  have e := T.en v h h2
  have := cnt_bd (Ch F v) (En F N v - v - 1).toNat (v + 1)
  unfold Cc
  omega
theorem wrapOf (T : TR N F G (iI N) d lb) (h : HI S K ct gd gl) (v a c g : Int) (hv : 0 ≤ v) (hv2 : v < N) (ha : 0 ≤ a) (hc : 0 ≤ c) (hac : a + c ≤ Cc F N v) (hg : 97 ≤ g) (hg2 : g ≤ 122) (hN : N < 100) : ∃ (S' : Int) (d' lb' ct' gd' gl' : Nat → Int32), mX4_wrap (iI N) d lb (iI S) (iI K) ct gd gl (iI v) (iI a) (iI c) (iI g) = some (iI (Sp F N v a), iI (N + 1), d', lb', iI S', iI (up15 K), ct', gd', gl') ∧ TR (N + 1) (wrF F v (Sp F N v a) (Sp F N v (a + c))) (wrG G (Sp F N v a) g) (iI (N + 1)) d' lb' ∧ HI S' (up15 K) ct' gd' gl' ∧ HT (slotOf S' 0) N F G ct' gd' gl' := by
  have n := T.1.nn
  have cc := T.1.cc v hv hv2
  obtain ⟨S', ct', gd', gl', r1, r2, r3⟩ := recOf T h
  obtain ⟨d', lb', w1, w2, w3⟩ := wrapCh T v a c g hv hv2 ha (by omega) hc (by omega) hN
  have s1 := T.1.sp v a hv hv2
  have s2 := T.1.sp v (a + c) hv hv2
  have sm := T.1.spMono v a c hv hv2 ha hc
  refine ⟨S', d', lb', ct', gd', gl', ?_, ⟨T.1.wrap v _ _ g hv s1.1 s1.2.1 hv2 s1.2.2.2 sm s2.2.2.1 hN hg hg2, rfl, w2, w3⟩, r2, r3⟩
  unfold mX4_wrap mX3_count
  rw [hasOf T v (by omega) (by omega), if_pos (show 0 ≤ v ∧ v < N from ⟨hv, hv2⟩), if_neg e10, childCountOf T v hv hv2, Option.bind_some, if_neg (show ¬ iI a < 0 by rw [iI_zero, iI_lt (by omega) (by omega) (by omega) (by omega)]; omega), if_neg (show ¬ iI (Cc F N v) < iI a by rw [iI_lt (by omega) (by omega) (by omega) (by omega)]; omega), if_neg (show ¬ iI c < 0 by rw [iI_zero, iI_lt (by omega) (by omega) (by omega) (by omega)]; omega), iI_sub, if_neg (show ¬ iI (Cc F N v - a) < iI c by rw [iI_lt (by omega) (by omega) (by omega) (by omega)]; omega), letterOf g (by omega) (by omega), if_pos (show 97 ≤ g ∧ g ≤ 122 from ⟨hg, hg2⟩), if_neg e10, if_pos (show iI N < iI 100 by rw [iI_lt (by omega) (by omega) (by omega) (by omega)]; omega), r1, Option.bind_some, w1]
  rfl
theorem insertOf (T : TR N F G (iI N) d lb) (h : HI S K ct gd gl) (v a g : Int) (hv : 0 ≤ v) (hv2 : v < N) (ha : 0 ≤ a) (hac : a ≤ Cc F N v) (hg : 97 ≤ g) (hg2 : g ≤ 122) (hN : N < 100) : ∃ (S' : Int) (d' lb' ct' gd' gl' : Nat → Int32), mX4_insert (iI N) d lb (iI S) (iI K) ct gd gl (iI v) (iI a) (iI g) = some (iI (Sp F N v a), iI (N + 1), d', lb', iI S', iI (up15 K), ct', gd', gl') ∧ TR (N + 1) (wrF F v (Sp F N v a) (Sp F N v a)) (wrG G (Sp F N v a) g) (iI (N + 1)) d' lb' ∧ HI S' (up15 K) ct' gd' gl' ∧ HT (slotOf S' 0) N F G ct' gd' gl' := by
  obtain ⟨S', d', lb', ct', gd', gl', h1, h2, h3, h4⟩ := wrapOf T h v a 0 g hv hv2 ha (Int.le_refl _) (by omega) hg hg2 hN
  rw [Int.add_zero] at h2
  refine ⟨S', d', lb', ct', gd', gl', ?_, h2, h3, h4⟩
  unfold mX4_insert
  rw [h1]
  rfl
theorem wrapNeg (T : TR N F G (iI N) d lb) (v : Int) (sl kp x3 x4 : Int32) (hv : 0 ≤ v) (hv2 : v < N) : mX4_wrap (iI N) d lb sl kp ct gd gl (iI v) (iI (-1)) x3 x4 = some (iI (-2), iI N, d, lb, sl, kp, ct, gd, gl) := by
  have n := T.1.nn
  unfold mX4_wrap
  rw [hasOf T v (by omega) (by omega), if_pos (show 0 ≤ v ∧ v < N from ⟨hv, hv2⟩), if_neg e10, childCountOf T v hv hv2, Option.bind_some, if_pos (by decide)]
theorem wrapSign (T : TR N F G (iI N) d lb) (v g : Int) (sl kp : Int32) (hv : 0 ≤ v) (hv2 : v < N) (hg : 122 < g) (hg2 : g < 65536) : mX4_wrap (iI N) d lb sl kp ct gd gl (iI v) (iI 0) (iI 0) (iI g) = some (iI (-2), iI N, d, lb, sl, kp, ct, gd, gl) := by
  have n := T.1.nn
  have cc := T.1.cc v hv hv2
  unfold mX4_wrap
  rw [hasOf T v (by omega) (by omega), if_pos (show 0 ≤ v ∧ v < N from ⟨hv, hv2⟩), if_neg e10, childCountOf T v hv hv2, Option.bind_some, if_neg (by decide), if_neg (show ¬ iI (Cc F N v) < iI 0 by rw [iI_lt (by omega) (by omega) (by omega) (by omega)]; omega), if_neg (by decide), iI_sub, if_neg (show ¬ iI (Cc F N v - 0) < iI 0 by rw [iI_lt (by omega) (by omega) (by omega) (by omega)]; omega), letterOf g (by omega) (by omega), if_neg (show ¬ (97 ≤ g ∧ g ≤ 122) by omega), if_pos e00]
theorem wrapMany (T : TR N F G (iI N) d lb) (v : Int) (sl kp x4 : Int32) (hv : 0 ≤ v) (hv2 : v < N) : mX4_wrap (iI N) d lb sl kp ct gd gl (iI v) (iI 0) (iI 101) x4 = some (iI (-2), iI N, d, lb, sl, kp, ct, gd, gl) := by
  have n := T.1.nn
  have cc := T.1.cc v hv hv2
  unfold mX4_wrap
  rw [hasOf T v (by omega) (by omega), if_pos (show 0 ≤ v ∧ v < N from ⟨hv, hv2⟩), if_neg e10, childCountOf T v hv hv2, Option.bind_some, if_neg (by decide), if_neg (show ¬ iI (Cc F N v) < iI 0 by rw [iI_lt (by omega) (by omega) (by omega) (by omega)]; omega), if_neg (by decide), iI_sub, if_pos (show iI (Cc F N v - 0) < iI 101 by rw [iI_lt (by omega) (by omega) (by omega) (by omega)]; omega)]
theorem insertNeg (T : TR N F G (iI N) d lb) (v : Int) (sl kp x3 : Int32) (hv : 0 ≤ v) (hv2 : v < N) : mX4_insert (iI N) d lb sl kp ct gd gl (iI v) (iI (-1)) x3 = some (iI (-2), iI N, d, lb, sl, kp, ct, gd, gl) := by
  unfold mX4_insert
  rw [wrapNeg T v sl kp _ _ hv hv2]
  rfl
theorem insertSign (T : TR N F G (iI N) d lb) (v g : Int) (sl kp : Int32) (hv : 0 ≤ v) (hv2 : v < N) (hg : 122 < g) (hg2 : g < 65536) : mX4_insert (iI N) d lb sl kp ct gd gl (iI v) (iI 0) (iI g) = some (iI (-2), iI N, d, lb, sl, kp, ct, gd, gl) := by
  unfold mX4_insert
  rw [wrapSign T v g sl kp hv hv2 hg hg2]
  rfl
theorem removeOf (T : TR N F G (iI N) d lb) (h : HI S K ct gd gl) (v : Int) (hv : 0 < v) (hv2 : v < N) : ∃ (S' : Int) (d' lb' ct' gd' gl' : Nat → Int32), mX4_remove (iI N) d lb (iI S) (iI K) ct gd gl (iI v) = some (iI (N - 1), iI (N - 1), d', lb', iI S', iI (up15 K), ct', gd', gl') ∧ TR (N - 1) (reF F v (En F N v)) (cuF G v 1) (iI (N - 1)) d' lb' ∧ HI S' (up15 K) ct' gd' gl' ∧ HT (slotOf S' 0) N F G ct' gd' gl' := by
  have n := T.1.nn
  obtain ⟨S', ct', gd', gl', r1, r2, r3⟩ := recOf T h
  obtain ⟨d', lb', w1, w2, w3⟩ := dissolveOf T v hv hv2
  refine ⟨S', d', lb', ct', gd', gl', ?_, ⟨T.1.rem v hv hv2, rfl, w2, w3⟩, r2, r3⟩
  unfold mX4_remove mX3_count
  rw [hasOf T v (by omega) (by omega), if_pos (show 0 ≤ v ∧ v < N from ⟨by omega, hv2⟩), if_neg e10, if_neg (show ¬ iI v = 0 by rw [iI_zero, iI_eq (by omega) (by omega) (by omega) (by omega)]; omega), r1, Option.bind_some, w1]
  rfl
theorem removeRoot (T : TR N F G (iI N) d lb) (sl kp : Int32) : mX4_remove (iI N) d lb sl kp ct gd gl (iI 0) = some (iI (-3), iI N, d, lb, sl, kp, ct, gd, gl) := by
  have n := T.1.nn
  unfold mX4_remove
  rw [hasOf T 0 (by omega) (by omega), if_pos (show (0 : Int) ≤ 0 ∧ 0 < N by omega), if_neg e10, if_pos (by decide)]
theorem cutOf (T : TR N F G (iI N) d lb) (h : HI S K ct gd gl) (v : Int) (hv : 0 < v) (hv2 : v < N) : ∃ (S' : Int) (d' lb' ct' gd' gl' : Nat → Int32), mX4_cut (iI N) d lb (iI S) (iI K) ct gd gl (iI v) = some (iI (N - (En F N v - v)), iI (N - (En F N v - v)), d', lb', iI S', iI (up15 K), ct', gd', gl') ∧ TR (N - (En F N v - v)) (cuF F v (En F N v - v)) (cuF G v (En F N v - v)) (iI (N - (En F N v - v))) d' lb' ∧ HI S' (up15 K) ct' gd' gl' ∧ HT (slotOf S' 0) N F G ct' gd' gl' := by
  have n := T.1.nn
  have en := T.1.en v (by omega) hv2
  obtain ⟨S', ct', gd', gl', r1, r2, r3⟩ := recOf T h
  obtain ⟨d', lb', g1, g2, g3⟩ := closeGapOf N v (En F N v - v) d lb (by omega) (by omega) (by omega) (by omega)
  have T1 := cutRows T v (En F N v - v) d' lb' hv hv2 rfl g2 g3
  refine ⟨S', d', lb', ct', gd', gl', ?_, T1, r2, r3⟩
  unfold mX4_cut mX3_count
  rw [hasOf T v (by omega) (by omega), if_pos (show 0 ≤ v ∧ v < N from ⟨by omega, hv2⟩), if_neg e10, if_neg (show ¬ iI v = 0 by rw [iI_zero, iI_eq (by omega) (by omega) (by omega) (by omega)]; omega), r1, Option.bind_some, sizeOf' T v (by omega) hv2, Option.bind_some, g1]
  rfl
theorem cutRoot (T : TR N F G (iI N) d lb) (sl kp : Int32) : mX4_cut (iI N) d lb sl kp ct gd gl (iI 0) = some (iI (-3), iI N, d, lb, sl, kp, ct, gd, gl) := by
  have n := T.1.nn
  unfold mX4_cut
  rw [hasOf T 0 (by omega) (by omega), if_pos (show (0 : Int) ≤ 0 ∧ 0 < N by omega), if_neg e10, if_pos (by decide)]
theorem setOf (T : TR N F G (iI N) d lb) (h : HI S K ct gd gl) (v g : Int) (hv : 0 ≤ v) (hv2 : v < N) (hg : 97 ≤ g) (hg2 : g ≤ 122) : ∃ (S' : Int) (d' lb' ct' gd' gl' : Nat → Int32), mX4_setLabel (iI N) d lb (iI S) (iI K) ct gd gl (iI v) (iI g) = some (iI (G v), d', lb', iI S', iI (up15 K), ct', gd', gl') ∧ TR N F (fun y => if y = v then g else G y) (iI N) d' lb' ∧ HI S' (up15 K) ct' gd' gl' ∧ HT (slotOf S' 0) N F G ct' gd' gl' := by
  have n := T.1.nn
  obtain ⟨S', ct', gd', gl', r1, r2, r3⟩ := recOf T h
  have tv : TV N F (fun y => if y = v then g else G y) := ⟨T.1.1, T.1.2.1, T.1.2.2.1, T.1.2.2.2.1, T.1.2.2.2.2.1, fun i h1 h2 => by
    dsimp only
    by_cases q : i = v
    · rw [if_pos q]; exact ⟨hg, hg2⟩
    · rw [if_neg q]; exact T.1.lab i h1 h2⟩
  refine ⟨S', upd d v.toNat (iI (F v)), upd lb v.toNat (iI g), ct', gd', gl', ?_, ⟨tv, rfl, fun i h1 h2 => ?_, fun i h1 h2 => ?_⟩, r2, r3⟩
  · unfold mX4_setLabel mX3_putNode
    rw [hasOf T v (by omega) (by omega), if_pos (show 0 ≤ v ∧ v < N from ⟨hv, hv2⟩), if_neg e10, letterOf g (by omega) (by omega), if_pos (show 97 ≤ g ∧ g ≤ 122 from ⟨hg, hg2⟩), if_neg e10, r1, Option.bind_some, lOf T v hv hv2, dOf T v (by omega) (by omega), putOf 100 _ v _ (by omega) hv (by omega), putOf 100 _ v _ (by omega) hv (by omega)]
  · by_cases q : i = v
    · rw [q, upd_in rfl]
    · rw [upd_ne (by omega)]; exact T.2.2.1 i h1 h2
  · dsimp only
    by_cases q : i = v
    · rw [if_pos q, q, upd_in rfl]
    · rw [if_neg q, upd_ne (by omega)]; exact T.2.2.2 i h1 h2
theorem setBad (T : TR N F G (iI N) d lb) (v g : Int) (sl kp : Int32) (hv : 0 ≤ v) (hv2 : v < N) (hg : 0 ≤ g) (hg2 : g < 97) : mX4_setLabel (iI N) d lb sl kp ct gd gl (iI v) (iI g) = some (iI (-2), d, lb, sl, kp, ct, gd, gl) := by
  have n := T.1.nn
  unfold mX4_setLabel
  rw [hasOf T v (by omega) (by omega), if_pos (show 0 ≤ v ∧ v < N from ⟨hv, hv2⟩), if_neg e10, letterOf g (by omega) (by omega), if_neg (show ¬ (97 ≤ g ∧ g ≤ 122) by omega), if_pos e00]
end EDITS
