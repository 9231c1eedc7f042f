/-! 24: moving a subtree -/
section MOVE
variable {N : Int} {F G : Int → Int} {d lb : Nat → Int32}
/-- what comes in: v's subtree, below t -/
def mvR (F F1 : Int → Int) (v t i : Int) : Int := F (v + i) - F v + F1 t + 1
theorem TV.mv (T : TV N F G) (v w k m t s : Int) (hv : 0 < v) (hv2 : v < N) (hw : 0 ≤ w) (hw2 : w < N) (hnot : ¬ (v ≤ w ∧ w < En F N v)) (hm : m = En F N v - v) (ht : t = if w < v then w else w - m) (hs : s = Sp (cuF F v m) (N - m) t k) : 1 ≤ m ∧ 0 ≤ t ∧ t < N - m ∧ t < s ∧ s ≤ N - m ∧ TV N (inF (cuF F v m) (mvR F (cuF F v m) v t) s m) (inF (cuF G v m) (fun i => G (v + i)) s m) := by
  have en := T.en v (by omega) hv2
  have T1 := T.cut v m hv hv2 hm
  have t0 : 0 ≤ t ∧ t < N - m := by rw [ht]; split <;> omega
  have sp := T1.sp t k t0.1 t0.2
  rw [← hs] at sp
  have n := T.nn
  refine ⟨by omega, t0.1, t0.2, sp.1, sp.2.2.1, ?_⟩
  have r := T1.ins t s m (mvR F (cuF F v m) v t) (fun i => G (v + i)) t0.1 t0.2 sp.1 sp.2.1 sp.2.2.2 (by omega) (by omega) (by unfold mvR; rw [Int.add_zero]; omega) (fun i h1 h2 => by
    have a := en.2.2.1 (v + i) (by omega) (by omega)
    have b := (T.2.2.2.1 (v + i) (by omega) (by omega)).2
    unfold mvR
    rw [show v + (i - 1) = v + i - 1 by omega]
    omega) (fun i h1 h2 => T.lab (v + i) (by omega) (by omega))
  rw [show N - m + m = N by omega] at r
  exact r
theorem transplantOf (T : TR N F G (iI N) d lb) (xd xl : Nat → Int32) (v w k m t s : Int) (hv : 0 < v) (hv2 : v < N) (hw : 0 ≤ w) (hw2 : w < N) (hnot : ¬ (v ≤ w ∧ w < En F N v)) (hk : -2147483648 ≤ k) (hk2 : k < 2147483648) (hm : m = En F N v - v) (ht : t = if w < v then w else w - m) (hs : s = Sp (cuF F v m) (N - m) t k) : ∃ d' lb' xd' xl' : Nat → Int32, mX3_transplant (iI N) d lb xd xl (iI v) (iI w) (iI k) = some (iI s, iI N, d', lb', xd', xl') ∧ (∀ i, 0 ≤ i → i < N → d' i.toNat = iI (inF (cuF F v m) (mvR F (cuF F v m) v t) s m i)) ∧ (∀ i, 0 ≤ i → i < N → lb' i.toNat = iI (inF (cuF G v m) (fun i => G (v + i)) s m i)) := by
  have n := T.1.nn
  have en := T.1.en v (by omega) hv2
  obtain ⟨m1, t1, t2, s1, s2, tv⟩ := T.1.mv v w k m t s hv hv2 hw hw2 hnot hm ht hs
  obtain ⟨xd', xl', h1, h2⟩ := holdOf N v m d lb xd xl (by omega) (by omega) m1 (by omega)
  obtain ⟨d1, l1, g1, g2, g3⟩ := closeGapOf N v m d lb (by omega) m1 (by omega) (by omega)
  have T1 := cutRows T v m d1 l1 hv hv2 hm g2 g3
  obtain ⟨d2, l2, k1, k2, k3⟩ := openGapOf (N - m) s m d1 l1 (by omega) (by omega) (by omega) m1 (by omega)
  rw [show N - m + m = N by omega] at k1 k2
  have dt : d2 t.toNat = iI (cuF F v m t) := by
    rw [(k3 t.toNat (by omega)).1]
    exact T1.2.2.1 t t1 t2
  obtain ⟨d3, l3, r1, r2, r3⟩ := releaseOf s m (iI (cuF F v m t + 1)) d2 l2 xd' xl' (by omega) (by omega) (by omega)
  have fin : ((mX3_startOfPlace (iI (N - m)) d1 (iI t) (iI k)).bind fun r5 => ((mX3_openGap (iI (N - m)) d1 l1 r5 (iI m)).bind fun r6 => ((mX3_release r6.2.1 r6.2.2 xd' xl' r5 (iI m) ((mX3_depthOf r6.1 r6.2.1 (iI t)) + (iI 1))).bind fun r7 => some (r5, r6.1, r7.1, r7.2, xd', xl')))) = some (iI s, iI N, d3, l3, xd', xl') := by
    rw [startOfPlaceOf T1 t k t1 t2 hk hk2, ← hs]
    simp only [Option.bind_some]
    rw [k1]
    simp only [Option.bind_some]
    rw [dRaw N t d2 (by omega) t1 (by omega), dt, iI_add, r1]
    rfl
  refine ⟨d3, l3, xd', xl', ?_, fun i q1 q2 => ?_, fun i q1 q2 => ?_⟩
  · unfold mX3_transplant
    rw [sizeOf' T v (by omega) hv2, ← hm]
    simp only [Option.bind_some]
    rw [h1]
    simp only [Option.bind_some]
    rw [g1]
    simp only [Option.bind_some]
    by_cases c : w < v
    · rw [if_pos c] at ht
      rw [if_neg (show ¬ iI v ≤ iI w by rw [iI_le (by omega) (by omega) (by omega) (by omega)]; omega), ← ht]
      exact fin
    · rw [if_neg c] at ht
      rw [if_pos (show iI v ≤ iI w by rw [iI_le (by omega) (by omega) (by omega) (by omega)]; omega), iI_sub, ← ht]
      exact fin
  · unfold inF
    by_cases c1 : i < s
    · rw [if_pos c1, (r3 i.toNat (by omega)).1, (k3 i.toNat (by omega)).1]
      exact T1.2.2.1 i q1 (by omega)
    · rw [if_neg c1]
      by_cases c2 : i < s + m
      · have a := (r2 (i - s) (by omega) (by omega)).1
        have b := (h2 (i - s) (by omega) (by omega)).1
        rw [show s + (i - s) = i by omega] at a
        rw [if_pos c2, a, b, T.2.2.1 (v + (i - s)) (by omega) (by omega), T.2.2.1 v (by omega) hv2, iI_sub, iI_add]
        unfold mvR
        congr 1
        omega
      · rw [if_neg c2, (r3 i.toNat (by omega)).1, (k2 i.toNat (by omega) (by omega)).1, show ((i.toNat : Int) - m).toNat = (i - m).toNat by omega]
        exact T1.2.2.1 (i - m) (by omega) (by omega)
  · unfold inF
    by_cases c1 : i < s
    · rw [if_pos c1, (r3 i.toNat (by omega)).2, (k3 i.toNat (by omega)).2]
      exact T1.2.2.2 i q1 (by omega)
    · rw [if_neg c1]
      by_cases c2 : i < s + m
      · have a := (r2 (i - s) (by omega) (by omega)).2
        have b := (h2 (i - s) (by omega) (by omega)).2
        rw [show s + (i - s) = i by omega] at a
        rw [if_pos c2, a, b]
        exact T.2.2.2 (v + (i - s)) (by omega) (by omega)
      · rw [if_neg c2, (r3 i.toNat (by omega)).2, (k2 i.toNat (by omega) (by omega)).2, show ((i.toNat : Int) - m).toNat = (i - m).toNat by omega]
        exact T1.2.2.2 (i - m) (by omega) (by omega)
theorem move_171 (N1 m s t : Int) (kp : Int32) (kr rd rl : Nat → Int32) (x1 x2 x3 x4 x6 : Int32) (hs : 0 ≤ s) (hs2 : s ≤ N1) (ht : 0 ≤ t) (hts : t < s) (hNm : N1 + m ≤ 100) (hm : 0 ≤ m) (hc2 : ∀ i, 0 ≤ i → i < m → vp_nar .char (rl i.toNat) = rl i.toNat) : ∀ (k f : Nat) (x : Int) (d lb : Nat → Int32), k < f → 0 ≤ x → x + k = m → (∀ j : Nat, s + x ≤ j → (j : Int) < N1 + x → vp_nar .char (lb j) = lb j) → ∃ d' lb' : Nat → Int32, mX5_move_171 f (iI (N1 + x)) d lb kp kr rd rl x1 x2 x3 x4 (iI m) x6 (iI t) (iI s) (iI x) = some (iI s, iI (N1 + m), d', lb', kp, kr, rd, rl) ∧ (∀ i, x ≤ i → i < m → d' (s + i).toNat = rd i.toNat + d t.toNat + iI 1 ∧ lb' (s + i).toNat = rl i.toNat) ∧ (∀ j : Nat, (j : Int) < s + x → d' j = d j ∧ lb' j = lb j) ∧ (∀ j : Nat, s + m ≤ j → (j : Int) < N1 + m → d' j = d (j - (m - x)).toNat ∧ lb' j = lb (j - (m - x)).toNat) := by
  intro k
  induction k with
  | zero =>
    intro f x d lb hf h0 hx hc
    obtain ⟨f, rfl⟩ : ∃ g, f = g + 1 := ⟨f - 1, by omega⟩
    refine ⟨d, lb, ?_, fun i h1 h2 => absurd h2 (by omega), fun j _ => ⟨rfl, rfl⟩, fun j h1 h2 => ?_⟩
    · rw [mX5_move_171, if_pos (by rw [iI_le (by omega) (by omega) (by omega) (by omega)]; omega), show x = m by omega]
    · rw [show ((j : Int) - (m - x)).toNat = j by omega]
      exact ⟨rfl, rfl⟩
  | succ k ih =>
    intro f x d lb hf h0 hx hc
    obtain ⟨f, rfl⟩ : ∃ g, f = g + 1 := ⟨f - 1, by omega⟩
    obtain ⟨d1, l1, p1, p2, p3, p4⟩ := mputOf (N1 + x) (s + x) (rd x.toNat + d t.toNat + iI 1) (rl x.toNat) d lb (by omega) (by omega) (by omega) hc
    obtain ⟨d', lb', h1, h2, h3, h4⟩ := ih f (x + 1) d1 l1 (by omega) (by omega) (by omega) (fun j q1 q2 => by rw [(p3 j (by omega) (by omega)).2]; exact hc (j - 1) (by omega) (by omega))
    have dt : d1 t.toNat = d t.toNat := (p4 t.toNat (by omega)).1
    refine ⟨d', lb', ?_, fun i g1 g2 => ?_, fun j hj => ?_, fun j g1 g2 => ?_⟩
    · rw [mX5_move_171, if_neg (by rw [iI_le (by omega) (by omega) (by omega) (by omega)]; omega), gdi h0 (by omega) (by omega), gdi ht (by omega) (by omega), gdi h0 (by omega) (by omega), iI_ix h0 (by omega), iI_ix ht (by omega), iI_add s x, p1]
      simp only [Option.bind_some]
      rw [iI_add x 1, Int.add_assoc N1 x 1]
      exact h1
    · by_cases q : i = x
      · have a := h3 (s + i).toNat (by omega)
        rw [a.1, a.2, q, p2.1, p2.2, hc2 x h0 (by omega)]
        exact ⟨rfl, rfl⟩
      · have a := h2 i (by omega) g2
        rw [dt] at a
        exact a
    · have a := h3 j (by omega)
      rw [a.1, a.2]
      exact p4 j hj
    · have a := h4 j g1 g2
      have b := p3 ((j : Int) - (m - (x + 1))).toNat (by omega) (by omega)
      rw [a.1, a.2, b.1, b.2, show ((j : Int) - (m - (x + 1))).toNat - 1 = ((j : Int) - (m - x)).toNat by omega]
      exact ⟨rfl, rfl⟩
theorem move_89 (M : TR N F G (iI N) d lb) (v m : Int) (kp : Int32) (kr : Nat → Int32) (x2 x3 x4 : Int32) (hv : 0 ≤ v) (hv2 : v + m ≤ N) (hm : 1 ≤ m) : ∀ (k f : Nat) (x : Int) (rd rl : Nat → Int32), k < f → 0 ≤ x → x + k = m → ∃ rd' rl' : Nat → Int32, mX5_move_89 f (iI N) d lb kp kr rd rl (iI v) x2 x3 x4 (iI m) (iI (F v)) (iI x) = ((mX5_take (iI N) d lb (iI v) (iI m)).bind fun r17 => (if x2 ≤ iI v then ((mX5_childOrEnd r17.1 r17.2.1 x2 x3).bind fun r19 => mX5_move_171 FU r17.1 r17.2.1 r17.2.2 kp kr rd' rl' (iI v) x2 x3 x4 (iI m) (iI (F v)) x2 r19 (iI 0)) else ((mX5_childOrEnd r17.1 r17.2.1 (x2 - iI m) x3).bind fun r20 => mX5_move_171 FU r17.1 r17.2.1 r17.2.2 kp kr rd' rl' (iI v) x2 x3 x4 (iI m) (iI (F v)) (x2 - iI m) r20 (iI 0)))) ∧ (∀ i, x ≤ i → i < m → rd' i.toNat = iI (F (v + i) - F v) ∧ rl' i.toNat = iI (G (v + i))) ∧ (∀ j : Nat, (j : Int) < x → rd' j = rd j ∧ rl' j = rl j) := by
  have n := M.1.nn
  intro k
  induction k with
  | zero =>
    intro f x rd rl hf h0 hx
    obtain ⟨f, rfl⟩ : ∃ g, f = g + 1 := ⟨f - 1, by omega⟩
    refine ⟨rd, rl, ?_, fun i h1 h2 => absurd h2 (by omega), fun j _ => ⟨rfl, rfl⟩⟩
    rw [mX5_move_89, if_pos (by rw [iI_le (by omega) (by omega) (by omega) (by omega)]; omega)]
  | succ k ih =>
    intro f x rd rl hf h0 hx
    obtain ⟨f, rfl⟩ : ∃ g, f = g + 1 := ⟨f - 1, by omega⟩
    have lv := M.1.lab (v + x) (by omega) (by omega)
    obtain ⟨rd', rl', h1, h2, h3⟩ := ih f (x + 1) (upd rd x.toNat (iI (F (v + x) - F v))) (upd rl x.toNat (iI (G (v + x)))) (by omega) (by omega) (by omega)
    refine ⟨rd', rl', ?_, fun i g1 g2 => ?_, fun j hj => ?_⟩
    · rw [mX5_move_89, if_neg (by rw [iI_le (by omega) (by omega) (by omega) (by omega)]; omega), iI_add v x, gdi (by omega) (by omega) (by omega), gdi h0 (by omega) (by omega), gdi (by omega) (by omega) (by omega), gdi h0 (by omega) (by omega), dAt M (v + x) (by omega) (by omega), lAt M (v + x) (by omega) (by omega), iI_sub, iI_ix h0 (by omega), narC (by omega) (by omega), iI_add x 1]
      exact h1
    · by_cases q : i = x
      · have a := h3 i.toNat (by omega)
        rw [a.1, a.2, upd_in (by rw [q]), upd_in (by rw [q]), q]
        exact ⟨rfl, rfl⟩
      · exact h2 i (by omega) g2
    · have a := h3 j (by omega)
      rw [a.1, a.2, upd_ne (by omega), upd_ne (by omega)]
      exact ⟨rfl, rfl⟩
theorem mmoveOf (M : TR N F G (iI N) d lb) (kp : Int32) (kr rd rl : Nat → Int32) (x4 : Int32) (v w k m t s : Int) (hv : 0 < v) (hv2 : v < N) (hw : 0 ≤ w) (hw2 : w < N) (hnot : ¬ (v ≤ w ∧ w < En F N v)) (hk : -2147483648 ≤ k) (hk2 : k < 2147483648) (hm : m = En F N v - v) (ht : t = if w < v then w else w - m) (hs : s = Sp (cuF F v m) (N - m) t k) : ∃ d' lb' rd' rl' : Nat → Int32, mX5_move_89 FU (iI N) d lb kp kr rd rl (iI v) (iI w) (iI k) x4 (iI m) (iI (F v)) (iI 0) = some (iI s, iI N, d', lb', kp, kr, rd', rl') ∧ (∀ i, 0 ≤ i → i < N → d' i.toNat = iI (inF (cuF F v m) (mvR F (cuF F v m) v t) s m i)) ∧ (∀ i, 0 ≤ i → i < N → lb' i.toNat = iI (inF (cuF G v m) (fun i => G (v + i)) s m i)) := by
  have n := M.1.nn
  have en := M.1.en v (by omega) hv2
  obtain ⟨m1, t1, t2, s1, s2, tv⟩ := M.1.mv v w k m t s hv hv2 hw hw2 hnot hm ht hs
  obtain ⟨rd', rl', h1, h2, -⟩ := move_89 M v m kp kr (iI w) (iI k) x4 (by omega) (by omega) m1 m.toNat FU 0 rd rl (by rw [FU_big]; omega) (by omega) (by omega)
  obtain ⟨d1, l1, g1, g2, g3⟩ := takeOf N v m d lb (by omega) m1 (by omega) (by omega) (fun j q1 q2 => M.nar j q2)
  have T1 := cutRows M v m d1 l1 hv hv2 hm g2 g3
  obtain ⟨d2, l2, k1, k2, k3, k4⟩ := move_171 (N - m) m s t kp kr rd' rl' (iI v) (iI w) (iI k) x4 (iI (F v)) (by omega) s2 t1 s1 (by omega) (by omega) (fun i q1 q2 => by
    have lv := M.1.lab (v + i) (by omega) (by omega)
    rw [(h2 i q1 q2).2, narC (by omega) (by omega)]) m.toNat FU 0 d1 l1 (by rw [FU_big]; omega) (by omega) (by omega) (fun j q1 q2 => T1.nar j (by omega))
  rw [Int.add_zero, show N - m + m = N by omega] at k1
  have dt : d1 t.toNat = iI (cuF F v m t) := T1.2.2.1 t t1 t2
  refine ⟨d2, l2, rd', rl', ?_, fun i q1 q2 => ?_, fun i q1 q2 => ?_⟩
  · rw [h1, g1]
    simp only [Option.bind_some]
    by_cases c : w < v
    · rw [if_pos c] at ht
      rw [if_pos (show iI w ≤ iI v by rw [iI_le (by omega) (by omega) (by omega) (by omega)]; omega), ← ht, childOrEndOf T1 t k t1 t2 hk hk2, ← hs]
      simp only [Option.bind_some]
      rw [ht] at k1 ⊢
      exact k1
    · rw [if_neg c] at ht
      rw [if_neg (show ¬ iI w ≤ iI v by rw [iI_le (by omega) (by omega) (by omega) (by omega)]; omega), iI_sub, ← ht, childOrEndOf T1 t k t1 t2 hk hk2, ← hs]
      simp only [Option.bind_some]
      exact k1
  · unfold inF
    by_cases c1 : i < s
    · rw [if_pos c1, (k3 i.toNat (by omega)).1]
      exact T1.2.2.1 i q1 (by omega)
    · rw [if_neg c1]
      by_cases c2 : i < s + m
      · have a := (k2 (i - s) (by omega) (by omega)).1
        have b := (h2 (i - s) (by omega) (by omega)).1
        rw [show s + (i - s) = i by omega] at a
        rw [if_pos c2, a, b, dt, iI_add, iI_add]
        rfl
      · rw [if_neg c2, (k4 i.toNat (by omega) (by omega)).1, show ((i.toNat : Int) - (m - 0)).toNat = (i - m).toNat by omega]
        exact T1.2.2.1 (i - m) (by omega) (by omega)
  · unfold inF
    by_cases c1 : i < s
    · rw [if_pos c1, (k3 i.toNat (by omega)).2]
      exact T1.2.2.2 i q1 (by omega)
    · rw [if_neg c1]
      by_cases c2 : i < s + m
      · have a := (k2 (i - s) (by omega) (by omega)).2
        have b := (h2 (i - s) (by omega) (by omega)).2
        rw [show s + (i - s) = i by omega] at a
        rw [if_pos c2, a, b]
      · rw [if_neg c2, (k4 i.toNat (by omega) (by omega)).2, show ((i.toNat : Int) - (m - 0)).toNat = (i - m).toNat by omega]
        exact T1.2.2.2 (i - m) (by omega) (by omega)
end MOVE
theorem st_move {n : Int32} {d : Nat → Int32} {lb : Nat → Int32} {xd : Nat → Int32} {xl : Nat → Int32} {wi : Int32} {sl : Int32} {kp : Int32} {ct : Nat → Int32} {gd : Nat → Int32} {gl : Nat → Int32} {ln : Int32} {ch : Nat → Int32} {mn : Int32} {md : Nat → Int32} {ml : Nat → Int32} {mk : Int32} {mr : Nat → Int32} {mt : Int32} {mx : Nat → Int32} {me : Nat → Int32} {mg : Nat → Int32} {mw : Int32} (I : Inv n d lb wi sl kp ct gd gl ln ch mn md ml mk mr mt mx mw) (a0 : Int32) (a1 : Int32) (a2 : Int32) : ∃ (RA : Int32 × Int32 × (Nat → Int32) × (Nat → Int32) × (Nat → Int32) × (Nat → Int32) × Int32 × Int32 × (Nat → Int32) × (Nat → Int32) × (Nat → Int32)) (RM : Int32 × Int32 × (Nat → Int32) × (Nat → Int32) × Int32 × (Nat → Int32) × (Nat → Int32) × (Nat → Int32)), mX4_move n d lb xd xl sl kp ct gd gl a0 a1 a2 = some RA ∧ mX5_move mn md ml mk mr me mg a0 a1 a2 = some RM ∧ RA.1 = RM.1 ∧ Inv RA.2.1 RA.2.2.1 RA.2.2.2.1 wi RA.2.2.2.2.2.2.1 RA.2.2.2.2.2.2.2.1 RA.2.2.2.2.2.2.2.2.1 RA.2.2.2.2.2.2.2.2.2.1 RA.2.2.2.2.2.2.2.2.2.2 ln ch RM.2.1 RM.2.2.1 RM.2.2.2.1 RM.2.2.2.2.1 RM.2.2.2.2.2.1 mt mx mw := by
  obtain ⟨N, F, G, T, M⟩ := I.1
  obtain rfl := T.2.1
  obtain rfl := M.2.1
  obtain ⟨v, rfl, hv1, hv2⟩ := iI_all a0
  obtain ⟨w, rfl, hw1, hw2⟩ := iI_all a1
  obtain ⟨k, rfl, hk1, hk2⟩ := iI_all a2
  have hN := T.1.nn
  obtain ⟨RA, RM, r1, r2, r3⟩ := histOf T M I.2.2.1
  unfold mX4_move mX5_move
  rw [hasOf T v hv1 hv2, noNodeOf M v hv1 hv2, hasOf T w hw1 hw2, noNodeOf M w hw1 hw2]
  by_cases c : 0 ≤ v ∧ v < N
  · rw [if_pos c, if_pos c, if_neg e10, if_pos e00]
    by_cases q : 0 ≤ w ∧ w < N
    · rw [if_pos q, if_pos q, if_neg e10, if_pos e00]
      have en := T.1.en v c.1 c.2
      have ew := T.1.en w q.1 q.2
      rw [holdsOf M v w c.1 c.2 q.1 q.2, endOf T v c.1 c.2]
      by_cases h : v ≤ w ∧ w < En F N v
      · rw [if_pos h, if_neg (show ¬ iI w < iI v by rw [iI_lt (by omega) (by omega) (by omega) (by omega)]; omega)]
        simp only [Option.bind_some]
        rw [if_neg e10, if_neg (show ¬ iI (En F N v) ≤ iI w by rw [iI_le (by omega) (by omega) (by omega) (by omega)]; omega)]
        exact ⟨_, _, rfl, rfl, rfl, I⟩
      · have v0 : 0 < v := by
          by_cases z : v = 0
          · exfalso
            have : En F N v = N := by
              by_cases t : En F N v < N
              · have := T.1.pos (En F N v) (by omega) t
                have := en.2.2.2
                rw [z] at this
                rw [T.1.2.2.1, ← z] at this
                omega
              · omega
            omega
          · omega
        rw [if_neg h]
        have cc : 0 ≤ Cc F N w ∧ Cc F N w ≤ 100 := by
          have := cnt_bd (Ch F w) (En F N w - w - 1).toNat (w + 1)
          unfold Cc
          omega
        have pa := T.1.paSpec v v0 c.2
        -- both, from the number of places on
        have tail : ∀ o : Int, 0 ≤ o → o ≤ 1 → ∃ (RA' : Int32 × Int32 × (Nat → Int32) × (Nat → Int32) × (Nat → Int32) × (Nat → Int32) × Int32 × Int32 × (Nat → Int32) × (Nat → Int32) × (Nat → Int32)) (RM' : Int32 × Int32 × (Nat → Int32) × (Nat → Int32) × Int32 × (Nat → Int32) × (Nat → Int32) × (Nat → Int32)), (if iI k < 0 then some ((iI (-2)), iI N, d, lb, xd, xl, sl, kp, ct, gd, gl) else (if iI k ≤ (iI (Cc F N w) - (iI o)) then ((mX1_record (iI N) d lb sl kp ct gd gl).bind fun r13 => ((mX3_transplant (iI N) d lb xd xl (iI v) (iI w) (iI k)).bind fun r14 => some (r14.1, r14.2.1, r14.2.2.1, r14.2.2.2.1, r14.2.2.2.2.1, r14.2.2.2.2.2, r13.1, r13.2.1, r13.2.2.1, r13.2.2.2.1, r13.2.2.2.2))) else some ((iI (-2)), iI N, d, lb, xd, xl, sl, kp, ct, gd, gl))) = some RA' ∧ (if (mX5_in (iI k) (iI 0) (iI (Cc F N w) - (iI o))) = 0 then some ((iI (-2)), iI N, md, ml, mk, mr, me, mg) else ((mX5_keep (iI N) md ml mk mr).bind fun r13 => ((mX5_behind (iI N) md (iI v)).bind fun r14 => (if inb (iI v) 100 then mX5_move_89 FU (iI N) md ml r13.1 r13.2 me mg (iI v) (iI w) (iI k) (iI (Cc F N w) - (iI o)) (r14 - iI v) (md (iI v).toNatClampNeg) (iI 0) else none)))) = some RM' ∧ RA'.1 = RM'.1 ∧ Inv RA'.2.1 RA'.2.2.1 RA'.2.2.2.1 wi RA'.2.2.2.2.2.2.1 RA'.2.2.2.2.2.2.2.1 RA'.2.2.2.2.2.2.2.2.1 RA'.2.2.2.2.2.2.2.2.2.1 RA'.2.2.2.2.2.2.2.2.2.2 ln ch RM'.2.1 RM'.2.2.1 RM'.2.2.2.1 RM'.2.2.2.2.1 RM'.2.2.2.2.2.1 mt mx mw := by
          intro o o1 o2
          rw [iI_sub, inOf k 0 (Cc F N w - o) hk1 hk2 (by omega) (by omega) (by omega) (by omega)]
          by_cases kk : 0 ≤ k ∧ k ≤ Cc F N w - o
          · rw [if_pos kk, if_neg e10, if_neg (show ¬ iI k < 0 by rw [iI_lt0 hk1 hk2]; omega), if_pos (show iI k ≤ iI (Cc F N w - o) by rw [iI_le (by omega) (by omega) (by omega) (by omega)]; omega), r1, r2]
            simp only [Option.bind_some]
            obtain ⟨d1, l1, xd1, xl1, w1, w2, w3⟩ := transplantOf T xd xl v w k (En F N v - v) _ _ v0 c.2 q.1 q.2 h hk1 hk2 rfl rfl rfl
            obtain ⟨d2, l2, rd1, rl1, z1, z2, z3⟩ := mmoveOf M RM.1 RM.2 me mg (iI (Cc F N w - o)) v w k (En F N v - v) _ _ v0 c.2 q.1 q.2 h hk1 hk2 rfl rfl rfl
            obtain ⟨m1, t1, t2, s1, s2, tv⟩ := T.1.mv v w k (En F N v - v) _ _ v0 c.2 q.1 q.2 h rfl rfl rfl
            rw [w1, behindOf M v c.1 c.2]
            simp only [Option.bind_some]
            rw [gdi c.1 (by omega) (by omega), dAt M v c.1 c.2, iI_sub, z1]
            exact ⟨_, _, rfl, rfl, rfl, ⟨N, _, _, ⟨tv, rfl, w2, w3⟩, ⟨tv, rfl, z2, z3⟩⟩, I.2.1, r3, I.2.2.2⟩
          · rw [if_neg kk, if_pos e00]
            by_cases t : k < 0
            · rw [if_pos (show iI k < 0 by rw [iI_lt0 hk1 hk2]; exact t)]
              exact ⟨_, _, rfl, rfl, rfl, I⟩
            · rw [if_neg (show ¬ iI k < 0 by rw [iI_lt0 hk1 hk2]; exact t), if_neg (show ¬ iI k ≤ iI (Cc F N w - o) by rw [iI_le (by omega) (by omega) (by omega) (by omega)]; omega)]
              exact ⟨_, _, rfl, rfl, rfl, I⟩
        simp only [Option.bind_some]
        rw [if_pos e00, childCountOf T w q.1 q.2, mchildCountOf M w q.1 q.2, parentOf' T v c.1 c.2, mparentOf M v c.1 c.2]
        simp only [Option.bind_some]
        by_cases pw : Pa F v = w
        · have epw : iI (Pa F v) = iI w := by rw [pw]
          simp only [if_pos epw]
          by_cases lt : w < v
          · rw [if_pos (show iI w < iI v by rw [iI_lt (by omega) (by omega) (by omega) (by omega)]; exact lt)]
            exact tail 1 (by omega) (by omega)
          · rw [if_neg (show ¬ iI w < iI v by rw [iI_lt (by omega) (by omega) (by omega) (by omega)]; exact lt), if_pos (show iI (En F N v) ≤ iI w by rw [iI_le (by omega) (by omega) (by omega) (by omega)]; omega)]
            exact tail 1 (by omega) (by omega)
        · have epw : ¬ iI (Pa F v) = iI w := by rw [iI_eq (by omega) (by omega) (by omega) (by omega)]; exact pw
          simp only [if_neg epw]
          by_cases lt : w < v
          · rw [if_pos (show iI w < iI v by rw [iI_lt (by omega) (by omega) (by omega) (by omega)]; exact lt)]
            exact tail 0 (by omega) (by omega)
          · rw [if_neg (show ¬ iI w < iI v by rw [iI_lt (by omega) (by omega) (by omega) (by omega)]; exact lt), if_pos (show iI (En F N v) ≤ iI w by rw [iI_le (by omega) (by omega) (by omega) (by omega)]; omega)]
            exact tail 0 (by omega) (by omega)
    · rw [if_neg q, if_neg q, if_pos e00, if_neg e10]
      exact ⟨_, _, rfl, rfl, rfl, I⟩
  · rw [if_neg c, if_neg c, if_pos e00, if_neg e10]
    exact ⟨_, _, rfl, rfl, rfl, I⟩
