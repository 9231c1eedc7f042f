/-! 42: moving -/
section MOVES
variable {N S K : Int} {F G : Int → Int} {d lb xd xl ct gd gl : Nat → Int32}
/-- one place less, where it is a child already -/
def ofs (F : Int → Int) (v w : Int) : Int := if Pa F v = w then 1 else 0
theorem moveCore (T : TR N F G (iI N) d lb) (sl kp : Int32) (v w : Int) (x3 : Int32) (hv : 0 < v) (hv2 : v < N) (hw : 0 ≤ w) (hw2 : w < N) (hnot : ¬ (v ≤ w ∧ w < En F N v)) : mX4_move (iI N) d lb xd xl sl kp ct gd gl (iI v) (iI w) x3 = (if x3 < 0 then some ((iI (-2)), iI N, d, lb, xd, xl, sl, kp, ct, gd, gl) else (if x3 ≤ iI (Cc F N w - ofs F v w) then ((mX1_record (iI N) d lb sl kp ct gd gl).bind fun r13 => ((mX3_transplant (iI N) d lb xd xl (iI v) (iI w) x3).bind fun r14 => some (r14.1, r14.2.1, r14.2.2.1, r14.2.2.2.1, r14.2.2.2.2.1, r14.2.2.2.2.2, r13.1, r13.2.1, r13.2.2.1, r13.2.2.2.1, r13.2.2.2.2))) else some ((iI (-2)), iI N, d, lb, xd, xl, sl, kp, ct, gd, gl))) := by
  have n := T.1.nn
  have en := T.1.en v (by omega) hv2
  have pa := T.1.paSpec v hv hv2
  unfold mX4_move ofs
  rw [hasOf T v (by omega) (by omega), hasOf T w (by omega) (by omega), if_pos (show 0 ≤ v ∧ v < N from ⟨by omega, hv2⟩), if_pos (show 0 ≤ w ∧ w < N from ⟨hw, hw2⟩), if_neg e10, if_neg e10, childCountOf T w hw hw2, parentOf' T v (by omega) hv2, endOf T v (by omega) hv2]
  simp only [Option.bind_some, iI_sub]
  by_cases pw : Pa F v = w
  · have epw : iI (Pa F v) = iI w := by rw [pw]
    simp only [if_pos epw, if_pos pw]
    by_cases lt : w < v
    · rw [if_pos (show iI w < iI v by rw [iI_lt (by omega) (by omega) (by omega) (by omega)]; exact lt)]
    · rw [if_neg (show ¬ iI w < iI v by rw [iI_lt (by omega) (by omega) (by omega) (by omega)]; exact lt), if_pos (show iI (En F N v) ≤ iI w by rw [iI_le (by omega) (by omega) (by omega) (by omega)]; omega)]
  · have epw : ¬ iI (Pa F v) = iI w := by rw [iI_eq (by omega) (by omega) (by omega) (by omega)]; exact pw
    simp only [if_neg epw, if_neg pw]
    by_cases lt : w < v
    · rw [if_pos (show iI w < iI v by rw [iI_lt (by omega) (by omega) (by omega) (by omega)]; exact lt)]
    · rw [if_neg (show ¬ iI w < iI v by rw [iI_lt (by omega) (by omega) (by omega) (by omega)]; exact lt), if_pos (show iI (En F N v) ≤ iI w by rw [iI_le (by omega) (by omega) (by omega) (by omega)]; omega)]
theorem ofs_bd (F : Int → Int) (v w : Int) : 0 ≤ ofs F v w ∧ ofs F v w ≤ 1 := by unfold ofs; split <;> omega
theorem moveOf (T : TR N F G (iI N) d lb) (h : HI S K ct gd gl) (v w k m t s : Int) (hv : 0 < v) (hv2 : v < N) (hw : 0 ≤ w) (hw2 : w < N) (hnot : ¬ (v ≤ w ∧ w < En F N v)) (hk : 0 ≤ k) (hk2 : k ≤ Cc F N w - ofs F v w) (hm : m = En F N v - v) (ht : t = if w < v then w else w - m) (hs : s = Sp (cuF F v m) (N - m) t k) : ∃ (S' : Int) (d' lb' xd' xl' ct' gd' gl' : Nat → Int32), mX4_move (iI N) d lb xd xl (iI S) (iI K) ct gd gl (iI v) (iI w) (iI k) = some (iI s, iI N, d', lb', xd', xl', iI S', iI (up15 K), ct', gd', gl') ∧ TR N (inF (cuF F v m) (mvR F (cuF F v m) v t) s m) (inF (cuF G v m) (fun i => G (v + i)) s m) (iI N) d' lb' ∧ HI S' (up15 K) ct' gd' gl' ∧ HT (slotOf S' 0) N F G ct' gd' gl' := by
  have n := T.1.nn
  have cc := T.1.cc w hw hw2
  have ob := ofs_bd F v w
  obtain ⟨S', ct', gd', gl', r1, r2, r3⟩ := recOf T h
  obtain ⟨d', lb', xd', xl', w1, w2, w3⟩ := transplantOf T xd xl v w k m t s hv hv2 hw hw2 hnot (by omega) (by omega) hm ht hs
  obtain ⟨m1, t1, t2, s1, s2, tv⟩ := T.1.mv v w k m t s hv hv2 hw hw2 hnot hm ht hs
  refine ⟨S', d', lb', xd', xl', ct', gd', gl', ?_, ⟨tv, rfl, w2, w3⟩, r2, r3⟩
  rw [moveCore T (iI S) (iI K) v w (iI k) hv hv2 hw hw2 hnot, if_neg (show ¬ iI k < 0 by rw [iI_zero, iI_lt (by omega) (by omega) (by omega) (by omega)]; omega), if_pos (show iI k ≤ iI (Cc F N w - ofs F v w) by rw [iI_le (by omega) (by omega) (by omega) (by omega)]; exact hk2), r1, Option.bind_some, w1]
  rfl
theorem moveBad (T : TR N F G (iI N) d lb) (sl kp : Int32) (v w k : Int) (hv : 0 < v) (hv2 : v < N) (hw : 0 ≤ w) (hw2 : w < N) (hnot : ¬ (v ≤ w ∧ w < En F N v)) (hk : 0 ≤ k) (hk2 : Cc F N w - ofs F v w < k) (hk3 : k < 1000) : mX4_move (iI N) d lb xd xl sl kp ct gd gl (iI v) (iI w) (iI k) = some (iI (-2), iI N, d, lb, xd, xl, sl, kp, ct, gd, gl) := by
  have n := T.1.nn
  have cc := T.1.cc w hw hw2
  have ob := ofs_bd F v w
  rw [moveCore T sl kp v w (iI k) hv hv2 hw hw2 hnot, if_neg (show ¬ iI k < 0 by rw [iI_zero, iI_lt (by omega) (by omega) (by omega) (by omega)]; omega), if_neg (show ¬ iI k ≤ iI (Cc F N w - ofs F v w) by rw [iI_le (by omega) (by omega) (by omega) (by omega)]; omega)]
theorem moveIn (T : TR N F G (iI N) d lb) (sl kp x3 : Int32) (v w : Int) (hv : 0 ≤ v) (hv2 : v < N) (hw : v ≤ w) (hw2 : w < En F N v) : mX4_move (iI N) d lb xd xl sl kp ct gd gl (iI v) (iI w) x3 = some (iI (-3), iI N, d, lb, xd, xl, sl, kp, ct, gd, gl) := by
  have n := T.1.nn
  have en := T.1.en v hv hv2
  unfold mX4_move
  rw [hasOf T v (by omega) (by omega), hasOf T w (by omega) (by omega), if_pos (show 0 ≤ v ∧ v < N from ⟨hv, hv2⟩), if_pos (show 0 ≤ w ∧ w < N by omega), if_neg e10, if_neg e10, if_neg (show ¬ iI w < iI v by rw [iI_lt (by omega) (by omega) (by omega) (by omega)]; omega), endOf T v hv hv2, Option.bind_some, if_neg (show ¬ iI (En F N v) ≤ iI w by rw [iI_le (by omega) (by omega) (by omega) (by omega)]; omega)]
end MOVES
