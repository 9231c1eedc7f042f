/-! 23: the steps that edit -/
theorem letterOf (g : Int) (h1 : -2147483648 ≤ g) (h2 : g < 2147483648) : mX4_isLetter (iI g) = iI (if 97 ≤ g ∧ g ≤ 122 then 1 else 0) := by
  unfold mX4_isLetter
  simp (disch := omega) only [iI_zero, iI_len, iI_le, iI_lt, iI_eq, iI_add, iI_sub, iI_mul, Option.bind_some]
  by_cases a : g < 97
  · rw [if_pos a, if_neg (by omega)]
  · rw [if_neg a]
    by_cases b : 122 < g
    · rw [if_pos b, if_neg (by omega)]
    · rw [if_neg b, if_pos (by omega)]
theorem iI_lt0 {a : Int} (h1 : -2147483648 ≤ a) (h2 : a < 2147483648) : (iI a < 0) = (a < 0) := by rw [iI_zero, iI_lt h1 h2 (by omega) (by omega)]
theorem iI_eq0 {a : Int} (h1 : -2147483648 ≤ a) (h2 : a < 2147483648) : (iI a = 0) = (a = 0) := by rw [iI_zero, iI_eq h1 h2 (by omega) (by omega)]
section ESTEP
variable {N : Int} {F G : Int → Int} {d lb : Nat → Int32}
theorem TR.nar (T : TR N F G (iI N) d lb) (j : Nat) (h : (j : Int) < N) : vp_nar .char (lb j) = lb j := by
  have b := T.1.lab j (by omega) h
  have := T.2.2.2 j (by omega) h
  rw [show ((j : Int)).toNat = j by omega] at this
  rw [this, narC (by omega) (by omega)]
theorem TR.dj (T : TR N F G (iI N) d lb) (j : Nat) (h : (j : Int) < N) : d j = iI (F j) ∧ lb j = iI (G j) := by
  have a := T.2.2.1 j (by omega) h
  have b := T.2.2.2 j (by omega) h
  rw [show ((j : Int)).toNat = j by omega] at a b
  exact ⟨a, b⟩
/-- the landed code's wrapping -/
theorem wrapCh (T : TR N F G (iI N) d lb) (p a c g : Int) (hp : 0 ≤ p) (hp2 : p < N) (ha : 0 ≤ a) (ha2 : a ≤ 1000) (hc : 0 ≤ c) (hc2 : c ≤ 1000) (hN : N < 100) : ∃ d' lb' : Nat → Int32, mX3_wrapChildren (iI N) d lb (iI p) (iI a) (iI c) (iI g) = some (iI (Sp F N p a), iI (N + 1), d', lb') ∧ (∀ i, 0 ≤ i → i < N + 1 → d' i.toNat = iI (wrF F p (Sp F N p a) (Sp F N p (a + c)) i)) ∧ (∀ i, 0 ≤ i → i < N + 1 → lb' i.toNat = iI (wrG G (Sp F N p a) g i)) := by
  have n := T.1.nn
  have s1 := T.1.sp p a hp hp2
  have s2 := T.1.sp p (a + c) hp hp2
  have sm := T.1.spMono p a c hp hp2 ha hc
  obtain ⟨s, hs⟩ : ∃ s, s = Sp F N p a := ⟨_, rfl⟩
  obtain ⟨e, he⟩ : ∃ e, e = Sp F N p (a + c) := ⟨_, rfl⟩
  obtain ⟨d1, l1, g1, g2, g3, g4⟩ := sinkOf N s e 1 d lb (by omega) (by omega) (by omega) (by omega)
  obtain ⟨d2, l2, k1, k2, k3⟩ := openGapOf N s 1 d1 l1 (by omega) (by omega) (by omega) (by omega) (by omega)
  have dp : d2 p.toNat = iI (F p) := by
    rw [(k3 p.toNat (by omega)).1, g3 p.toNat (by omega)]
    exact T.2.2.1 p hp hp2
  refine ⟨upd d2 s.toNat (iI (F p + 1)), upd l2 s.toNat (iI g), ?_, fun i h1 h2 => ?_, fun i h1 h2 => ?_⟩
  · unfold mX3_wrapChildren
    rw [iI_add a c, startOfPlaceOf T p a hp hp2 (by omega) (by omega), startOfPlaceOf T p (a + c) hp hp2 (by omega) (by omega)]
    simp only [Option.bind_some]
    rw [← hs, ← he, g1]
    simp only [Option.bind_some]
    rw [k1]
    simp only [Option.bind_some]
    rw [dRaw (N + 1) p d2 (by omega) hp (by omega), dp, iI_add, nodePut _ _ _ _ _ (by omega) (by omega)]
  · rw [← hs, ← he]
    unfold wrF
    by_cases c1 : i < s
    · rw [if_pos c1, upd_ne (by omega), (k3 i.toNat (by omega)).1, g3 i.toNat (by omega)]
      exact T.2.2.1 i h1 (by omega)
    · rw [if_neg c1]
      by_cases c2 : i = s
      · rw [if_pos c2, c2, upd_in rfl]
      · rw [if_neg c2, upd_ne (by omega), (k2 i.toNat (by omega) (by omega)).1, show ((i.toNat : Int) - 1).toNat = (i - 1).toNat by omega]
        have q := T.2.2.1 (i - 1) (by omega) (by omega)
        by_cases c3 : i ≤ e
        · rw [if_pos c3, g2 _ (by omega) (by omega), q, iI_add]
        · rw [if_neg c3, g3 _ (by omega), q]
  · rw [← hs]
    unfold wrG
    by_cases c1 : i < s
    · rw [if_pos c1, upd_ne (by omega), (k3 i.toNat (by omega)).2, g4]
      exact T.2.2.2 i h1 (by omega)
    · rw [if_neg c1]
      by_cases c2 : i = s
      · rw [if_pos c2, c2, upd_in rfl]
      · rw [if_neg c2, upd_ne (by omega), (k2 i.toNat (by omega) (by omega)).2, show ((i.toNat : Int) - 1).toNat = (i - 1).toNat by omega, g4]
        exact T.2.2.2 (i - 1) (by omega) (by omega)
theorem wrap_88 (N e s : Int) (lb : Nat → Int32) (kp : Int32) (kr : Nat → Int32) (x1 x2 x3 x4 x5 : Int32) (he : e ≤ N) (hN : N ≤ 100) : ∀ (k f : Nat) (x : Int) (d : Nat → Int32), k < f → 0 ≤ x → x + k = e → ∃ d1 : Nat → Int32, mX5_wrap_88 f (iI N) d lb kp kr x1 x2 x3 x4 x5 (iI s) (iI e) (iI x) = (if inb x1 100 then ((mX5_put (iI N) d1 lb (iI s) ((d1 x1.toNatClampNeg) + (iI 1)) x4).bind fun r12 => some (iI s, r12.1, r12.2.1, r12.2.2, kp, kr)) else none) ∧ (∀ j : Nat, x ≤ j → (j : Int) < e → d1 j = d j + iI 1) ∧ (∀ j : Nat, (j : Int) < x ∨ e ≤ j → d1 j = d j) := by
  intro k
  induction k with
  | zero =>
    intro f x d hf h0 hx
    obtain ⟨f, rfl⟩ : ∃ g, f = g + 1 := ⟨f - 1, by omega⟩
    refine ⟨d, ?_, fun j h1 h2 => absurd h2 (by omega), fun j _ => rfl⟩
    rw [mX5_wrap_88, if_pos (by rw [iI_le (by omega) (by omega) (by omega) (by omega)]; omega)]
  | succ k ih =>
    intro f x d hf h0 hx
    obtain ⟨f, rfl⟩ : ∃ g, f = g + 1 := ⟨f - 1, by omega⟩
    obtain ⟨d1, h1, h2, h3⟩ := ih f (x + 1) (upd d x.toNat (d x.toNat + iI 1)) (by omega) (by omega) (by omega)
    refine ⟨d1, ?_, fun j g1 g2 => ?_, fun j hj => ?_⟩
    · rw [mX5_wrap_88, if_neg (by rw [iI_le (by omega) (by omega) (by omega) (by omega)]; omega), gdi h0 (by omega) (by omega), gdi h0 (by omega) (by omega), iI_ix h0 (by omega), iI_add x 1]
      exact h1
    · by_cases q : (j : Int) = x
      · rw [h3 j (by omega), upd_in (by omega), show x.toNat = j by omega]
      · rw [h2 j (by omega) g2, upd_ne (by omega)]
    · rw [h3 j (by omega), upd_ne (by omega)]
theorem mwrapOf (M : TR N F G (iI N) d lb) (kp : Int32) (kr : Nat → Int32) (p s e g : Int) (x2 x3 x5 : Int32) (hp : 0 ≤ p) (hp2 : p < s) (hse : s ≤ e) (he : e ≤ N) (hN : N < 100) (hg : 0 ≤ g) (hg2 : g < 65536) : ∃ d' lb' : Nat → Int32, mX5_wrap_88 FU (iI N) d lb kp kr (iI p) x2 x3 (iI g) x5 (iI s) (iI e) (iI s) = some (iI s, iI (N + 1), d', lb', kp, kr) ∧ (∀ i, 0 ≤ i → i < N + 1 → d' i.toNat = iI (wrF F p s e i)) ∧ (∀ i, 0 ≤ i → i < N + 1 → lb' i.toNat = iI (wrG G s g i)) := by
  have n := M.1.nn
  obtain ⟨d1, g1, g2, g3⟩ := wrap_88 N e s lb kp kr (iI p) x2 x3 (iI g) x5 he (by omega) (e - s).toNat FU s d (by rw [FU_big]; omega) (by omega) (by omega)
  have dp : d1 p.toNat = iI (F p) := by
    rw [g3 p.toNat (by omega)]
    exact M.2.2.1 p hp (by omega)
  obtain ⟨d2, l2, k1, k2, k3, k4⟩ := mputOf N s (iI (F p + 1)) (iI g) d1 lb (by omega) (by omega) hN (fun j q1 q2 => M.nar j q2)
  refine ⟨d2, l2, ?_, fun i h1 h2 => ?_, fun i h1 h2 => ?_⟩
  · rw [g1, gdi hp (by omega) (by omega), iI_ix hp (by omega), dp, iI_add, k1]
    rfl
  · unfold wrF
    by_cases c1 : i < s
    · rw [if_pos c1, (k4 i.toNat (by omega)).1, g3 i.toNat (by omega)]
      exact M.2.2.1 i h1 (by omega)
    · rw [if_neg c1]
      by_cases c2 : i = s
      · rw [if_pos c2, c2, k2.1]
      · rw [if_neg c2, (k3 i.toNat (by omega) (by omega)).1, show i.toNat - 1 = (i - 1).toNat by omega]
        have q := M.2.2.1 (i - 1) (by omega) (by omega)
        by_cases c3 : i ≤ e
        · rw [if_pos c3, g2 _ (by omega) (by omega), q, iI_add]
        · rw [if_neg c3, g3 _ (by omega), q]
  · unfold wrG
    by_cases c1 : i < s
    · rw [if_pos c1, (k4 i.toNat (by omega)).2]
      exact M.2.2.2 i h1 (by omega)
    · rw [if_neg c1]
      by_cases c2 : i = s
      · rw [if_pos c2, c2, k2.2, narC hg hg2]
      · rw [if_neg c2, (k3 i.toNat (by omega) (by omega)).2, show i.toNat - 1 = (i - 1).toNat by omega]
        exact M.2.2.2 (i - 1) (by omega) (by omega)
/-- the landed code's removal -/
theorem dissolveOf (T : TR N F G (iI N) d lb) (v : Int) (hv : 0 < v) (hv2 : v < N) : ∃ d' lb' : Nat → Int32, mX3_dissolve (iI N) d lb (iI v) = some (iI (N - 1), d', lb') ∧ (∀ i, 0 ≤ i → i < N - 1 → d' i.toNat = iI (reF F v (En F N v) i)) ∧ (∀ i, 0 ≤ i → i < N - 1 → lb' i.toNat = iI (cuF G v 1 i)) := by
  have n := T.1.nn
  have en := T.1.en v (by omega) hv2
  obtain ⟨d1, l1, g1, g2, g3, g4⟩ := sinkOf N (v + 1) (En F N v) (-1) d lb (by omega) (by omega) (by omega) (by omega)
  obtain ⟨d2, l2, k1, k2, k3⟩ := closeGapOf N v 1 d1 l1 (by omega) (by omega) (by omega) (by omega)
  refine ⟨d2, l2, ?_, fun i h1 h2 => ?_, fun i h1 h2 => ?_⟩
  · unfold mX3_dissolve
    rw [endOf T v (by omega) hv2]
    simp only [Option.bind_some]
    rw [iI_add, g1]
    simp only [Option.bind_some]
    rw [k1]
    rfl
  · unfold reF
    by_cases c1 : i < v
    · rw [if_pos c1, (k3 i.toNat (by omega)).1, g3 i.toNat (by omega)]
      exact T.2.2.1 i h1 (by omega)
    · have q := T.2.2.1 (i + 1) (by omega) (by omega)
      rw [if_neg c1, (k2 i.toNat (by omega) (by omega)).1, show ((i.toNat : Int) + 1).toNat = (i + 1).toNat by omega]
      by_cases c2 : i + 1 < En F N v
      · rw [if_pos c2, g2 _ (by omega) (by omega), q, iI_add, Int.sub_eq_add_neg]
      · rw [if_neg c2, g3 _ (by omega), q]
  · unfold cuF
    by_cases c1 : i < v
    · rw [if_pos c1, (k3 i.toNat (by omega)).2, g4]
      exact T.2.2.2 i h1 (by omega)
    · rw [if_neg c1, (k2 i.toNat (by omega) (by omega)).2, show ((i.toNat : Int) + 1).toNat = (i + 1).toNat by omega, g4]
      exact T.2.2.2 (i + 1) (by omega) (by omega)
theorem remove_31 (N e v : Int) (lb : Nat → Int32) (kp : Int32) (kr : Nat → Int32) (he : e ≤ N) (hN : N ≤ 100) : ∀ (k f : Nat) (x : Int) (d : Nat → Int32), k < f → 0 ≤ x → x + k = e → ∃ d1 : Nat → Int32, mX5_remove_31 f (iI N) d lb kp kr (iI v) (iI e) (iI x) = ((mX5_take (iI N) d1 lb (iI v) (iI 1)).bind fun r6 => some (r6.1, r6.1, r6.2.1, r6.2.2, kp, kr)) ∧ (∀ j : Nat, x ≤ j → (j : Int) < e → d1 j = d j - iI 1) ∧ (∀ j : Nat, (j : Int) < x ∨ e ≤ j → d1 j = d j) := by
  intro k
  induction k with
  | zero =>
    intro f x d hf h0 hx
    obtain ⟨f, rfl⟩ : ∃ g, f = g + 1 := ⟨f - 1, by omega⟩
    refine ⟨d, ?_, fun j h1 h2 => absurd h2 (by omega), fun j _ => rfl⟩
    rw [mX5_remove_31, if_pos (by rw [iI_le (by omega) (by omega) (by omega) (by omega)]; omega)]
  | succ k ih =>
    intro f x d hf h0 hx
    obtain ⟨f, rfl⟩ : ∃ g, f = g + 1 := ⟨f - 1, by omega⟩
    obtain ⟨d1, h1, h2, h3⟩ := ih f (x + 1) (upd d x.toNat (d x.toNat - iI 1)) (by omega) (by omega) (by omega)
    refine ⟨d1, ?_, fun j g1 g2 => ?_, fun j hj => ?_⟩
    · rw [mX5_remove_31, if_neg (by rw [iI_le (by omega) (by omega) (by omega) (by omega)]; omega), gdi h0 (by omega) (by omega), gdi h0 (by omega) (by omega), iI_ix h0 (by omega), iI_add x 1]
      exact h1
    · by_cases q : (j : Int) = x
      · rw [h3 j (by omega), upd_in (by omega), show x.toNat = j by omega]
      · rw [h2 j (by omega) g2, upd_ne (by omega)]
    · rw [h3 j (by omega), upd_ne (by omega)]
theorem mremoveOf (M : TR N F G (iI N) d lb) (kp : Int32) (kr : Nat → Int32) (v : Int) (hv : 0 < v) (hv2 : v < N) : ∃ d' lb' : Nat → Int32, mX5_remove_31 FU (iI N) d lb kp kr (iI v) (iI (En F N v)) (iI (v + 1)) = some (iI (N - 1), iI (N - 1), d', lb', kp, kr) ∧ (∀ i, 0 ≤ i → i < N - 1 → d' i.toNat = iI (reF F v (En F N v) i)) ∧ (∀ i, 0 ≤ i → i < N - 1 → lb' i.toNat = iI (cuF G v 1 i)) := by
  have n := M.1.nn
  have en := M.1.en v (by omega) hv2
  obtain ⟨d1, g1, g2, g3⟩ := remove_31 N (En F N v) v lb kp kr (by omega) (by omega) (En F N v - v - 1).toNat FU (v + 1) d (by rw [FU_big]; omega) (by omega) (by omega)
  obtain ⟨d2, l2, k1, k2, k3⟩ := takeOf N v 1 d1 lb (by omega) (by omega) (by omega) (by omega) (fun j q1 q2 => M.nar j q2)
  refine ⟨d2, l2, ?_, fun i h1 h2 => ?_, fun i h1 h2 => ?_⟩
  · rw [g1, k1]
    rfl
  · unfold reF
    by_cases c1 : i < v
    · rw [if_pos c1, (k3 i.toNat (by omega)).1, g3 i.toNat (by omega)]
      exact M.2.2.1 i h1 (by omega)
    · have q := M.2.2.1 (i + 1) (by omega) (by omega)
      rw [if_neg c1, (k2 i.toNat (by omega) (by omega)).1, show ((i.toNat : Int) + 1).toNat = (i + 1).toNat by omega]
      by_cases c2 : i + 1 < En F N v
      · rw [if_pos c2, g2 _ (by omega) (by omega), q, iI_sub]
      · rw [if_neg c2, g3 _ (by omega), q]
  · unfold cuF
    by_cases c1 : i < v
    · rw [if_pos c1, (k3 i.toNat (by omega)).2]
      exact M.2.2.2 i h1 (by omega)
    · rw [if_neg c1, (k2 i.toNat (by omega) (by omega)).2, show ((i.toNat : Int) + 1).toNat = (i + 1).toNat by omega]
      exact M.2.2.2 (i + 1) (by omega) (by omega)
theorem cutRows (T : TR N F G (iI N) d lb) (v m : Int) (d2 l2 : Nat → Int32) (hv : 0 < v) (hv2 : v < N) (hm : m = En F N v - v) (k2 : ∀ j : Nat, v ≤ j → (j : Int) < N - m → d2 j = d (j + m).toNat ∧ l2 j = lb (j + m).toNat) (k3 : ∀ j : Nat, (j : Int) < v → d2 j = d j ∧ l2 j = lb j) : TR (N - m) (cuF F v m) (cuF G v m) (iI (N - m)) d2 l2 := by
  have n := T.1.nn
  have en := T.1.en v (by omega) hv2
  refine ⟨T.1.cut v m hv hv2 hm, rfl, fun i h1 h2 => ?_, fun i h1 h2 => ?_⟩
  · unfold cuF
    by_cases c1 : i < v
    · rw [if_pos c1, (k3 i.toNat (by omega)).1]
      exact T.2.2.1 i h1 (by omega)
    · rw [if_neg c1, (k2 i.toNat (by omega) (by omega)).1, show ((i.toNat : Int) + m).toNat = (i + m).toNat by omega]
      exact T.2.2.1 (i + m) (by omega) (by omega)
  · unfold cuF
    by_cases c1 : i < v
    · rw [if_pos c1, (k3 i.toNat (by omega)).2]
      exact T.2.2.2 i h1 (by omega)
    · rw [if_neg c1, (k2 i.toNat (by omega) (by omega)).2, show ((i.toNat : Int) + m).toNat = (i + m).toNat by omega]
      exact T.2.2.2 (i + m) (by omega) (by omega)
end ESTEP
theorem st_setLabel {n : Int32} {d : Nat → Int32} {lb : Nat → Int32} {wi : Int32} {sl : Int32} {kp : Int32} {ct : Nat → Int32} {gd : Nat → Int32} {gl : Nat → Int32} {ln : Int32} {ch : Nat → Int32} {mn : Int32} {md : Nat → Int32} {ml : Nat → Int32} {mk : Int32} {mr : Nat → Int32} {mt : Int32} {mx : Nat → Int32} {mw : Int32} (I : Inv n d lb wi sl kp ct gd gl ln ch mn md ml mk mr mt mx mw) (a0 : Int32) (a1 : Int32) : ∃ (RA : Int32 × (Nat → Int32) × (Nat → Int32) × Int32 × Int32 × (Nat → Int32) × (Nat → Int32) × (Nat → Int32)) (RM : Int32 × (Nat → Int32) × Int32 × (Nat → Int32)), mX4_setLabel n d lb sl kp ct gd gl a0 (c16 a1) = some RA ∧ mX5_setLabel mn md ml mk mr a0 (c16 a1) = some RM ∧ RA.1 = RM.1 ∧ Inv n RA.2.1 RA.2.2.1 wi RA.2.2.2.1 RA.2.2.2.2.1 RA.2.2.2.2.2.1 RA.2.2.2.2.2.2.1 RA.2.2.2.2.2.2.2 ln ch mn md RM.2.1 RM.2.2.1 RM.2.2.2 mt mx mw := by
  obtain ⟨N, F, G, T, M⟩ := I.1
  obtain rfl := T.2.1
  obtain rfl := M.2.1
  obtain ⟨v, rfl, hv1, hv2⟩ := iI_all a0
  obtain ⟨g, hg, hg1, hg2⟩ := c16All a1
  rw [hg]
  have hN := T.1.nn
  obtain ⟨RA, RM, r1, r2, r3⟩ := histOf T M I.2.2.1
  unfold mX4_setLabel mX5_setLabel
  rw [hasOf T v hv1 hv2, noNodeOf M v hv1 hv2, show mX5_isLetter (iI g) = mX4_isLetter (iI g) from rfl, letterOf g (by omega) (by omega)]
  by_cases c : 0 ≤ v ∧ v < N
  · rw [if_pos c, if_pos c, if_neg e10, if_pos e00]
    by_cases l : 97 ≤ g ∧ g ≤ 122
    · rw [if_pos l, if_neg e10, if_neg e10, r1, r2]
      simp only [Option.bind_some]
      rw [gdi c.1 (by omega) (by omega), gdi c.1 (by omega) (by omega), lOf T v c.1 c.2, lAt M v c.1 c.2, dOf T v (by omega) (by omega), nodePut _ _ _ _ _ c.1 (by omega), iI_ix c.1 (by omega), narC hg1 hg2]
      refine ⟨_, _, rfl, rfl, rfl, ?_, I.2.1, r3, I.2.2.2⟩
      have tv : TV N F (fun y => if y = v then g else G y) := ⟨T.1.1, T.1.2.1, T.1.2.2.1, T.1.2.2.2.1, T.1.2.2.2.2.1, fun i h1 h2 => by
        dsimp only
        by_cases q : i = v
        · rw [if_pos q]; exact l
        · rw [if_neg q]; exact T.1.lab i h1 h2⟩
      refine ⟨N, F, fun y => if y = v then g else G y, ⟨tv, rfl, fun i h1 h2 => ?_, fun i h1 h2 => ?_⟩, ⟨tv, rfl, fun i h1 h2 => M.2.2.1 i h1 h2, fun i h1 h2 => ?_⟩⟩
      · dsimp only
        by_cases q : i = v
        · rw [upd_in (by rw [q]), q]
        · rw [upd_ne (by omega)]; exact T.2.2.1 i h1 h2
      · dsimp only
        by_cases q : i = v
        · rw [if_pos q, upd_in (by rw [q])]
        · rw [if_neg q, upd_ne (by omega)]; exact T.2.2.2 i h1 h2
      · dsimp only
        by_cases q : i = v
        · rw [if_pos q, upd_in (by rw [q])]
        · rw [if_neg q, upd_ne (by omega)]; exact M.2.2.2 i h1 h2
    · rw [if_neg l, if_pos e00, if_pos e00]
      exact ⟨_, _, rfl, rfl, rfl, I⟩
  · rw [if_neg c, if_neg c, if_pos e00, if_neg e10]
    exact ⟨_, _, rfl, rfl, rfl, I⟩
theorem st_wrap {n : Int32} {d : Nat → Int32} {lb : Nat → Int32} {wi : Int32} {sl : Int32} {kp : Int32} {ct : Nat → Int32} {gd : Nat → Int32} {gl : Nat → Int32} {ln : Int32} {ch : Nat → Int32} {mn : Int32} {md : Nat → Int32} {ml : Nat → Int32} {mk : Int32} {mr : Nat → Int32} {mt : Int32} {mx : Nat → Int32} {mw : Int32} (I : Inv n d lb wi sl kp ct gd gl ln ch mn md ml mk mr mt mx mw) (a0 : Int32) (a1 : Int32) (a2 : Int32) (a3 : Int32) : ∃ (RA : Int32 × Int32 × (Nat → Int32) × (Nat → Int32) × Int32 × Int32 × (Nat → Int32) × (Nat → Int32) × (Nat → Int32)) (RM : Int32 × Int32 × (Nat → Int32) × (Nat → Int32) × Int32 × (Nat → Int32)), mX4_wrap n d lb sl kp ct gd gl a0 a1 a2 (c16 a3) = some RA ∧ mX5_wrap mn md ml mk mr a0 a1 a2 (c16 a3) = some RM ∧ RA.1 = RM.1 ∧ Inv RA.2.1 RA.2.2.1 RA.2.2.2.1 wi RA.2.2.2.2.1 RA.2.2.2.2.2.1 RA.2.2.2.2.2.2.1 RA.2.2.2.2.2.2.2.1 RA.2.2.2.2.2.2.2.2 ln ch RM.2.1 RM.2.2.1 RM.2.2.2.1 RM.2.2.2.2.1 RM.2.2.2.2.2 mt mx mw := by
  obtain ⟨N, F, G, T, M⟩ := I.1
  obtain rfl := T.2.1
  obtain rfl := M.2.1
  obtain ⟨p, rfl, hp1, hp2⟩ := iI_all a0
  obtain ⟨a, rfl, ha1, ha2⟩ := iI_all a1
  obtain ⟨b, rfl, hb1, hb2⟩ := iI_all a2
  obtain ⟨g, hg, hg1, hg2⟩ := c16All a3
  rw [hg]
  have hN := T.1.nn
  obtain ⟨RA, RM, r1, r2, r3⟩ := histOf T M I.2.2.1
  unfold mX4_wrap mX5_wrap mX3_count
  rw [hasOf T p hp1 hp2, noNodeOf M p hp1 hp2, show mX5_isLetter (iI g) = mX4_isLetter (iI g) from rfl, letterOf g (by omega) (by omega)]
  by_cases c : 0 ≤ p ∧ p < N
  · rw [if_pos c, if_pos c, if_neg e10, if_pos e00, childCountOf T p c.1 c.2, mchildCountOf M p c.1 c.2]
    simp only [Option.bind_some]
    have cc : 0 ≤ Cc F N p ∧ Cc F N p ≤ 100 := by
      have := cnt_bd (Ch F p) (En F N p - p - 1).toNat (p + 1)
      have := T.1.en p c.1 c.2
      unfold Cc
      omega
    rw [inOf a 0 (Cc F N p) ha1 ha2 (by omega) (by omega) (by omega) (by omega)]
    by_cases q : 0 ≤ a ∧ a ≤ Cc F N p
    · rw [if_pos q, if_neg e10, if_neg (show ¬ iI a < 0 by rw [iI_lt0 ha1 ha2]; omega), if_neg (show ¬ iI (Cc F N p) < iI a by rw [iI_lt (by omega) (by omega) (by omega) (by omega)]; omega)]
      simp only [iI_sub]
      rw [inOf b 0 (Cc F N p - a) hb1 hb2 (by omega) (by omega) (by omega) (by omega)]
      by_cases w : 0 ≤ b ∧ b ≤ Cc F N p - a
      · rw [if_pos w, if_neg e10, if_neg (show ¬ iI b < 0 by rw [iI_lt0 hb1 hb2]; omega), if_neg (show ¬ iI (Cc F N p - a) < iI b by rw [iI_lt (by omega) (by omega) (by omega) (by omega)]; omega)]
        by_cases l : 97 ≤ g ∧ g ≤ 122
        · rw [if_pos l, if_neg e10, if_neg e10]
          by_cases u : N < 100
          · rw [if_pos (show iI N < iI 100 by rw [iI_lt (by omega) (by omega) (by omega) (by omega)]; exact u), if_neg (show ¬ iI N = iI 100 by rw [iI_eq (by omega) (by omega) (by omega) (by omega)]; omega), r1, r2]
            simp only [Option.bind_some]
            obtain ⟨d1, l1, w1, w2, w3⟩ := wrapCh T p a b g c.1 c.2 q.1 (by omega) w.1 (by omega) u
            have s1 := T.1.sp p a c.1 c.2
            have s2 := T.1.sp p (a + b) c.1 c.2
            have sm := T.1.spMono p a b c.1 c.2 q.1 w.1
            obtain ⟨d2, l2, z1, z2, z3⟩ := mwrapOf M RM.1 RM.2 p (Sp F N p a) (Sp F N p (a + b)) g (iI a) (iI b) (iI (Cc F N p)) c.1 s1.1 sm s2.2.2.1 u hg1 hg2
            rw [w1, childOrEndOf M p a c.1 c.2 ha1 ha2, iI_add, childOrEndOf M p (a + b) c.1 c.2 (by omega) (by omega)]
            simp only [Option.bind_some]
            rw [z1]
            have tv := T.1.wrap p (Sp F N p a) (Sp F N p (a + b)) g c.1 s1.1 s1.2.1 c.2 s1.2.2.2 sm s2.2.2.1 u l.1 l.2
            exact ⟨_, _, rfl, rfl, rfl, ⟨N + 1, _, _, ⟨tv, rfl, w2, w3⟩, ⟨tv, rfl, z2, z3⟩⟩, I.2.1, r3, I.2.2.2⟩
          · rw [if_neg (show ¬ iI N < iI 100 by rw [iI_lt (by omega) (by omega) (by omega) (by omega)]; exact u), if_pos (show iI N = iI 100 by rw [iI_eq (by omega) (by omega) (by omega) (by omega)]; omega)]
            exact ⟨_, _, rfl, rfl, rfl, I⟩
        · rw [if_neg l, if_pos e00, if_pos e00]
          exact ⟨_, _, rfl, rfl, rfl, I⟩
      · rw [if_neg w, if_pos e00]
        by_cases t : b < 0
        · rw [if_pos (show iI b < 0 by rw [iI_lt0 hb1 hb2]; exact t)]
          exact ⟨_, _, rfl, rfl, rfl, I⟩
        · rw [if_neg (show ¬ iI b < 0 by rw [iI_lt0 hb1 hb2]; exact t), if_pos (show iI (Cc F N p - a) < iI b by rw [iI_lt (by omega) (by omega) (by omega) (by omega)]; omega)]
          exact ⟨_, _, rfl, rfl, rfl, I⟩
    · rw [if_neg q, if_pos e00]
      by_cases t : a < 0
      · rw [if_pos (show iI a < 0 by rw [iI_lt0 ha1 ha2]; exact t)]
        exact ⟨_, _, rfl, rfl, rfl, I⟩
      · rw [if_neg (show ¬ iI a < 0 by rw [iI_lt0 ha1 ha2]; exact t), if_pos (show iI (Cc F N p) < iI a by rw [iI_lt (by omega) (by omega) (by omega) (by omega)]; omega)]
        exact ⟨_, _, rfl, rfl, rfl, I⟩
  · rw [if_neg c, if_neg c, if_pos e00, if_neg e10]
    exact ⟨_, _, rfl, rfl, rfl, I⟩
theorem st_insert {n : Int32} {d : Nat → Int32} {lb : Nat → Int32} {wi : Int32} {sl : Int32} {kp : Int32} {ct : Nat → Int32} {gd : Nat → Int32} {gl : Nat → Int32} {ln : Int32} {ch : Nat → Int32} {mn : Int32} {md : Nat → Int32} {ml : Nat → Int32} {mk : Int32} {mr : Nat → Int32} {mt : Int32} {mx : Nat → Int32} {mw : Int32} (I : Inv n d lb wi sl kp ct gd gl ln ch mn md ml mk mr mt mx mw) (a0 : Int32) (a1 : Int32) (a2 : Int32) : ∃ (RA : Int32 × Int32 × (Nat → Int32) × (Nat → Int32) × Int32 × Int32 × (Nat → Int32) × (Nat → Int32) × (Nat → Int32)) (RM : Int32 × Int32 × (Nat → Int32) × (Nat → Int32) × Int32 × (Nat → Int32)), mX4_insert n d lb sl kp ct gd gl a0 a1 (c16 a2) = some RA ∧ mX5_insert mn md ml mk mr a0 a1 (c16 a2) = some RM ∧ RA.1 = RM.1 ∧ Inv RA.2.1 RA.2.2.1 RA.2.2.2.1 wi RA.2.2.2.2.1 RA.2.2.2.2.2.1 RA.2.2.2.2.2.2.1 RA.2.2.2.2.2.2.2.1 RA.2.2.2.2.2.2.2.2 ln ch RM.2.1 RM.2.2.1 RM.2.2.2.1 RM.2.2.2.2.1 RM.2.2.2.2.2 mt mx mw := by
  obtain ⟨N, F, G, T, M⟩ := I.1
  obtain rfl := T.2.1
  obtain rfl := M.2.1
  obtain ⟨p, rfl, hp1, hp2⟩ := iI_all a0
  obtain ⟨a, rfl, ha1, ha2⟩ := iI_all a1
  obtain ⟨g, hg, hg1, hg2⟩ := c16All a2
  rw [hg]
  have hN := T.1.nn
  obtain ⟨RA, RM, r1, r2, r3⟩ := histOf T M I.2.2.1
  unfold mX4_insert mX4_wrap mX5_insert mX3_count
  rw [hasOf T p hp1 hp2, noNodeOf M p hp1 hp2, show mX5_isLetter (iI g) = mX4_isLetter (iI g) from rfl, letterOf g (by omega) (by omega)]
  by_cases c : 0 ≤ p ∧ p < N
  · rw [if_pos c, if_pos c, if_neg e10, if_pos e00, childCountOf T p c.1 c.2, mchildCountOf M p c.1 c.2]
    simp only [Option.bind_some]
    have cc : 0 ≤ Cc F N p ∧ Cc F N p ≤ 100 := by
      have := cnt_bd (Ch F p) (En F N p - p - 1).toNat (p + 1)
      have := T.1.en p c.1 c.2
      unfold Cc
      omega
    rw [inOf a 0 (Cc F N p) ha1 ha2 (by omega) (by omega) (by omega) (by omega)]
    by_cases q : 0 ≤ a ∧ a ≤ Cc F N p
    · rw [if_pos q, if_neg e10, if_neg (show ¬ iI a < 0 by rw [iI_lt0 ha1 ha2]; omega), if_neg (show ¬ iI (Cc F N p) < iI a by rw [iI_lt (by omega) (by omega) (by omega) (by omega)]; omega), iI_sub, if_neg (show ¬ iI 0 < 0 by rw [iI_lt0 (by omega) (by omega)]; omega), if_neg (show ¬ iI (Cc F N p - a) < iI 0 by rw [iI_lt (by omega) (by omega) (by omega) (by omega)]; omega)]
      by_cases l : 97 ≤ g ∧ g ≤ 122
      · rw [if_pos l, if_neg e10, if_neg e10]
        by_cases u : N < 100
        · rw [if_pos (show iI N < iI 100 by rw [iI_lt (by omega) (by omega) (by omega) (by omega)]; exact u), if_neg (show ¬ iI N = iI 100 by rw [iI_eq (by omega) (by omega) (by omega) (by omega)]; omega), r1, r2]
          simp only [Option.bind_some]
          obtain ⟨d1, l1, w1, w2, w3⟩ := wrapCh T p a 0 g c.1 c.2 q.1 (by omega) (by omega) (by omega) u
          rw [Int.add_zero] at w2
          have s1 := T.1.sp p a c.1 c.2
          obtain ⟨d2, l2, z1, z2, z3, z4⟩ := mputOf N (Sp F N p a) (iI (F p + 1)) (iI g) md ml (by omega) (by omega) u (fun j q1 q2 => M.nar j q2)
          rw [w1, childOrEndOf M p a c.1 c.2 ha1 ha2]
          simp only [Option.bind_some]
          rw [gdi c.1 (by omega) (by omega), dAt M p c.1 c.2, iI_add, z1]
          have tv := T.1.wrap p (Sp F N p a) (Sp F N p a) g c.1 s1.1 s1.2.1 c.2 s1.2.2.2 (Int.le_refl _) s1.2.2.1 u l.1 l.2
          refine ⟨_, _, rfl, rfl, rfl, ⟨N + 1, _, _, ⟨tv, rfl, w2, w3⟩, ⟨tv, rfl, fun i h1 h2 => ?_, fun i h1 h2 => ?_⟩⟩, I.2.1, r3, I.2.2.2⟩
          · dsimp only
            unfold wrF
            by_cases c1 : i < Sp F N p a
            · rw [if_pos c1, (z4 i.toNat (by omega)).1]
              exact M.2.2.1 i h1 (by omega)
            · rw [if_neg c1]
              by_cases c2 : i = Sp F N p a
              · rw [if_pos c2, c2, z2.1]
              · rw [if_neg c2, if_neg (by omega), (z3 i.toNat (by omega) (by omega)).1, show i.toNat - 1 = (i - 1).toNat by omega]
                exact M.2.2.1 (i - 1) (by omega) (by omega)
          · dsimp only
            unfold wrG
            by_cases c1 : i < Sp F N p a
            · rw [if_pos c1, (z4 i.toNat (by omega)).2]
              exact M.2.2.2 i h1 (by omega)
            · rw [if_neg c1]
              by_cases c2 : i = Sp F N p a
              · rw [if_pos c2, c2, z2.2, narC hg1 hg2]
              · rw [if_neg c2, (z3 i.toNat (by omega) (by omega)).2, show i.toNat - 1 = (i - 1).toNat by omega]
                exact M.2.2.2 (i - 1) (by omega) (by omega)
        · rw [if_neg (show ¬ iI N < iI 100 by rw [iI_lt (by omega) (by omega) (by omega) (by omega)]; exact u), if_pos (show iI N = iI 100 by rw [iI_eq (by omega) (by omega) (by omega) (by omega)]; omega)]
          exact ⟨_, _, rfl, rfl, rfl, I⟩
      · rw [if_neg l, if_pos e00, if_pos e00]
        exact ⟨_, _, rfl, rfl, rfl, I⟩
    · rw [if_neg q, if_pos e00]
      by_cases t : a < 0
      · rw [if_pos (show iI a < 0 by rw [iI_lt0 ha1 ha2]; exact t)]
        exact ⟨_, _, rfl, rfl, rfl, I⟩
      · rw [if_neg (show ¬ iI a < 0 by rw [iI_lt0 ha1 ha2]; exact t), if_pos (show iI (Cc F N p) < iI a by rw [iI_lt (by omega) (by omega) (by omega) (by omega)]; omega)]
        exact ⟨_, _, rfl, rfl, rfl, I⟩
  · rw [if_neg c, if_neg c, if_pos e00, if_neg e10]
    exact ⟨_, _, rfl, rfl, rfl, I⟩
theorem st_remove {n : Int32} {d : Nat → Int32} {lb : Nat → Int32} {wi : Int32} {sl : Int32} {kp : Int32} {ct : Nat → Int32} {gd : Nat → Int32} {gl : Nat → Int32} {ln : Int32} {ch : Nat → Int32} {mn : Int32} {md : Nat → Int32} {ml : Nat → Int32} {mk : Int32} {mr : Nat → Int32} {mt : Int32} {mx : Nat → Int32} {mw : Int32} (I : Inv n d lb wi sl kp ct gd gl ln ch mn md ml mk mr mt mx mw) (a0 : Int32) : ∃ (RA : Int32 × Int32 × (Nat → Int32) × (Nat → Int32) × Int32 × Int32 × (Nat → Int32) × (Nat → Int32) × (Nat → Int32)) (RM : Int32 × Int32 × (Nat → Int32) × (Nat → Int32) × Int32 × (Nat → Int32)), mX4_remove n d lb sl kp ct gd gl a0 = some RA ∧ mX5_remove mn md ml mk mr a0 = some RM ∧ RA.1 = RM.1 ∧ Inv RA.2.1 RA.2.2.1 RA.2.2.2.1 wi RA.2.2.2.2.1 RA.2.2.2.2.2.1 RA.2.2.2.2.2.2.1 RA.2.2.2.2.2.2.2.1 RA.2.2.2.2.2.2.2.2 ln ch RM.2.1 RM.2.2.1 RM.2.2.2.1 RM.2.2.2.2.1 RM.2.2.2.2.2 mt mx mw := by
  obtain ⟨N, F, G, T, M⟩ := I.1
  obtain rfl := T.2.1
  obtain rfl := M.2.1
  obtain ⟨v, rfl, hv1, hv2⟩ := iI_all a0
  have hN := T.1.nn
  obtain ⟨RA, RM, r1, r2, r3⟩ := histOf T M I.2.2.1
  unfold mX4_remove mX5_remove mX3_count
  rw [hasOf T v hv1 hv2, noNodeOf M v hv1 hv2]
  by_cases c : 0 ≤ v ∧ v < N
  · rw [if_pos c, if_pos c, if_neg e10, if_pos e00]
    by_cases z : v = 0
    · rw [if_pos (show iI v = 0 by rw [iI_eq0 hv1 hv2]; exact z), if_pos (show iI v = 0 by rw [iI_eq0 hv1 hv2]; exact z)]
      exact ⟨_, _, rfl, rfl, rfl, I⟩
    · obtain ⟨d1, l1, w1, w2, w3⟩ := dissolveOf T v (by omega) c.2
      obtain ⟨d2, l2, z1, z2, z3⟩ := mremoveOf M RM.1 RM.2 v (by omega) c.2
      rw [if_neg (show ¬ iI v = 0 by rw [iI_eq0 hv1 hv2]; exact z), if_neg (show ¬ iI v = 0 by rw [iI_eq0 hv1 hv2]; exact z), r1, r2]
      simp only [Option.bind_some]
      rw [w1, behindOf M v c.1 c.2]
      simp only [Option.bind_some]
      rw [iI_add, z1]
      have tv := T.1.rem v (by omega) c.2
      exact ⟨_, _, rfl, rfl, rfl, ⟨N - 1, _, _, ⟨tv, rfl, w2, w3⟩, ⟨tv, rfl, z2, z3⟩⟩, I.2.1, r3, I.2.2.2⟩
  · rw [if_neg c, if_neg c, if_pos e00, if_neg e10]
    exact ⟨_, _, rfl, rfl, rfl, I⟩
theorem st_cut {n : Int32} {d : Nat → Int32} {lb : Nat → Int32} {wi : Int32} {sl : Int32} {kp : Int32} {ct : Nat → Int32} {gd : Nat → Int32} {gl : Nat → Int32} {ln : Int32} {ch : Nat → Int32} {mn : Int32} {md : Nat → Int32} {ml : Nat → Int32} {mk : Int32} {mr : Nat → Int32} {mt : Int32} {mx : Nat → Int32} {mw : Int32} (I : Inv n d lb wi sl kp ct gd gl ln ch mn md ml mk mr mt mx mw) (a0 : Int32) : ∃ (RA : Int32 × Int32 × (Nat → Int32) × (Nat → Int32) × Int32 × Int32 × (Nat → Int32) × (Nat → Int32) × (Nat → Int32)) (RM : Int32 × Int32 × (Nat → Int32) × (Nat → Int32) × Int32 × (Nat → Int32)), mX4_cut n d lb sl kp ct gd gl a0 = some RA ∧ mX5_cut mn md ml mk mr a0 = some RM ∧ RA.1 = RM.1 ∧ Inv RA.2.1 RA.2.2.1 RA.2.2.2.1 wi RA.2.2.2.2.1 RA.2.2.2.2.2.1 RA.2.2.2.2.2.2.1 RA.2.2.2.2.2.2.2.1 RA.2.2.2.2.2.2.2.2 ln ch RM.2.1 RM.2.2.1 RM.2.2.2.1 RM.2.2.2.2.1 RM.2.2.2.2.2 mt mx mw := by
  obtain ⟨N, F, G, T, M⟩ := I.1
  obtain rfl := T.2.1
  obtain rfl := M.2.1
  obtain ⟨v, rfl, hv1, hv2⟩ := iI_all a0
  have hN := T.1.nn
  obtain ⟨RA, RM, r1, r2, r3⟩ := histOf T M I.2.2.1
  unfold mX4_cut mX5_cut mX3_count
  rw [hasOf T v hv1 hv2, noNodeOf M v hv1 hv2]
  by_cases c : 0 ≤ v ∧ v < N
  · rw [if_pos c, if_pos c, if_neg e10, if_pos e00]
    by_cases z : v = 0
    · rw [if_pos (show iI v = 0 by rw [iI_eq0 hv1 hv2]; exact z), if_pos (show iI v = 0 by rw [iI_eq0 hv1 hv2]; exact z)]
      exact ⟨_, _, rfl, rfl, rfl, I⟩
    · have en := T.1.en v c.1 c.2
      obtain ⟨d1, l1, w1, w2, w3⟩ := closeGapOf N v (En F N v - v) d lb c.1 (by omega) (by omega) (by omega)
      obtain ⟨d2, l2, z1, z2, z3⟩ := takeOf N v (En F N v - v) md ml c.1 (by omega) (by omega) (by omega) (fun j q1 q2 => M.nar j q2)
      rw [if_neg (show ¬ iI v = 0 by rw [iI_eq0 hv1 hv2]; exact z), if_neg (show ¬ iI v = 0 by rw [iI_eq0 hv1 hv2]; exact z), r1, r2]
      simp only [Option.bind_some]
      rw [sizeOf' T v c.1 c.2, behindOf M v c.1 c.2]
      simp only [Option.bind_some]
      rw [iI_sub, w1, z1]
      exact ⟨_, _, rfl, rfl, rfl, ⟨N - (En F N v - v), _, _, cutRows T v _ d1 l1 (by omega) c.2 rfl w2 w3, cutRows M v _ d2 l2 (by omega) c.2 rfl z2 z3⟩, I.2.1, r3, I.2.2.2⟩
  · rw [if_neg c, if_neg c, if_pos e00, if_neg e10]
    exact ⟨_, _, rfl, rfl, rfl, I⟩
