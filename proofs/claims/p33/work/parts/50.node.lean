/-! 50: a node as it tells of itself and its neighbours (the law's node) -/
section NODE
variable {N : Int} {F G : Int → Int} {d lb : Nat → Int32}
theorem bo0 (T : TR N F G (iI N) d lb) (v : Int) (h : 0 ≤ v) (h2 : v < N) : mX4_bracket (iI N) d (iI (2 * v - F v)) (iI 0) = some (iI 1) := by
  rw [boK T v _ h h2, if_pos rfl]
theorem bo1 (T : TR N F G (iI N) d lb) (v : Int) (h : 0 ≤ v) (h2 : v < N) : mX4_bracket (iI N) d (iI (2 * v - F v)) (iI 1) = some (iI (F v + 1)) := by
  rw [boK T v _ h h2, if_neg (by decide), if_pos rfl]
theorem bo2 (T : TR N F G (iI N) d lb) (v : Int) (h : 0 ≤ v) (h2 : v < N) : mX4_bracket (iI N) d (iI (2 * v - F v)) (iI 2) = some (iI (2 * v - F v + 2 * (En F N v - v) - 1)) := by
  rw [boK T v _ h h2, if_neg (by decide), if_neg (by decide), if_pos rfl]
theorem bo4 (T : TR N F G (iI N) d lb) (v : Int) (h : 0 ≤ v) (h2 : v < N) : mX4_bracket (iI N) d (iI (2 * v - F v)) (iI 4) = some (iI v) := by
  rw [boK T v _ h h2, if_neg (by decide), if_neg (by decide), if_neg (by decide), if_neg (by decide), if_pos rfl]
theorem bc0 (T : TR N F G (iI N) d lb) (v : Int) (h : 0 ≤ v) (h2 : v < N) : mX4_bracket (iI N) d (iI (2 * v - F v + 2 * (En F N v - v) - 1)) (iI 0) = some (iI 0) := by
  rw [bcK T v _ h h2, if_pos rfl]
theorem bc1 (T : TR N F G (iI N) d lb) (v : Int) (h : 0 ≤ v) (h2 : v < N) : mX4_bracket (iI N) d (iI (2 * v - F v + 2 * (En F N v - v) - 1)) (iI 1) = some (iI (F v)) := by
  rw [bcK T v _ h h2, if_neg (by decide), if_pos rfl]
theorem bc2 (T : TR N F G (iI N) d lb) (v : Int) (h : 0 ≤ v) (h2 : v < N) : mX4_bracket (iI N) d (iI (2 * v - F v + 2 * (En F N v - v) - 1)) (iI 2) = some (iI (2 * v - F v)) := by
  rw [bcK T v _ h h2, if_neg (by decide), if_neg (by decide), if_pos rfl]
theorem bc3 (T : TR N F G (iI N) d lb) (v : Int) (h : 0 ≤ v) (h2 : v < N) : mX4_bracket (iI N) d (iI (2 * v - F v + 2 * (En F N v - v) - 1)) (iI 3) = some (iI (if v = 0 then -5 else 2 * Pa F v - F (Pa F v))) := by
  rw [bcK T v _ h h2, if_neg (by decide), if_neg (by decide), if_neg (by decide), if_pos rfl]
theorem bc4 (T : TR N F G (iI N) d lb) (v : Int) (h : 0 ≤ v) (h2 : v < N) : mX4_bracket (iI N) d (iI (2 * v - F v + 2 * (En F N v - v) - 1)) (iI 4) = some (iI v) := by
  rw [bcK T v _ h h2, if_neg (by decide), if_neg (by decide), if_neg (by decide), if_neg (by decide), if_pos rfl]
/-- one child -/
theorem node_step (T : TR N F G (iI N) d lb) (v : Int) (h : 0 ≤ v) (h2 : v < N) (x2 x4 x6 x7 x8 x9 : Int32) (f : Nat) (s lv hi c hv mo k : Int) (hk : 0 ≤ k) (hk2 : k < Cc F N v) (hc : c = Sp F N v k) (hi0 : 0 ≤ hi) (hi1 : hi ≤ 100) (mo0 : 0 ≤ mo) (mo1 : mo ≤ 100) : mL_node_95 (f + 1) (iI N) d lb (iI v) x2 (iI (F v)) x4 (iI (Cc F N v)) x6 x7 x8 x9 (iI (s)) (iI (lv)) (iI (hi)) (iI (c)) (iI (hv)) (iI (mo)) (iI (k)) = mL_node_95 f (iI N) d lb (iI v) x2 (iI (F v)) x4 (iI (Cc F N v)) x6 x7 x8 x9 (iI (s + (En F N c - c))) (iI (lv + cnt (Lf F) (En F N c - c).toNat c)) (iI (if hi < F (Dp F N c) - F c + 1 then F (Dp F N c) - F c + 1 else hi)) (iI (c + (En F N c - c))) (iI (if mo < En F N c - c then c else hv)) (iI (if mo < En F N c - c then En F N c - c else mo)) (iI (k + 1)) := by
  have hN := T.1.nn
  have cc := T.1.cc v h h2
  have en := T.1.en v h h2
  obtain ⟨s1, s2, s3, s4⟩ := T.1.spIn v k h h2 hk hk2
  have nx := T.1.nxCh v k h h2 hk hk2
  have sb := T.1.sbCh v k h h2 hk hk2
  rw [← hc] at s1 s2 s3 s4 nx sb
  have c0 : 0 ≤ c := by omega
  have cN : c < N := by omega
  have ec := T.1.en c c0 cN
  have bc := T.1.bd c
  have pa := T.1.paCh v c h h2 s1 s2 s3
  have pl := T.1.plCh v c h h2 s1 s2 s3
  have dp := T.1.dpSpec c c0 cN
  have dpb := T.1.bd (Dp F N c)
  have dpc := dp.2.2 c (by omega) (by omega)
  have t287 : ∀ (y hv' mo' : Int), mL_node_287 (mL_node_95 f) (iI N) d lb (iI v) x2 (iI (F v)) x4 (iI (Cc F N v)) x6 x7 x8 x9 (iI s) (iI lv) (iI c) (iI hv') (iI mo') (iI k) (iI c) (iI (En F N c - c)) (iI y) = mL_node_95 f (iI N) d lb (iI v) x2 (iI (F v)) x4 (iI (Cc F N v)) x6 x7 x8 x9 (iI (s + (En F N c - c))) (iI (lv + cnt (Lf F) (En F N c - c).toNat c)) (iI (y)) (iI (c + (En F N c - c))) (iI (hv')) (iI (mo')) (iI (k + 1)) := by
    intro y hv' mo'
    unfold mL_node_287
    rw [nd6 T c c0 cN, Option.bind_some]
    simp only [iI_add]
  have t257 : ∀ (hv' mo' : Int), mL_node_257 (mL_node_95 f) (iI N) d lb (iI v) x2 (iI (F v)) x4 (iI (Cc F N v)) x6 x7 x8 x9 (iI s) (iI lv) (iI hi) (iI c) (iI hv') (iI k) (iI c) (iI (En F N c - c)) (iI mo') = mL_node_95 f (iI N) d lb (iI v) x2 (iI (F v)) x4 (iI (Cc F N v)) x6 x7 x8 x9 (iI (s + (En F N c - c))) (iI (lv + cnt (Lf F) (En F N c - c).toNat c)) (iI ((if hi < F (Dp F N c) - F c + 1 then F (Dp F N c) - F c + 1 else hi))) (iI (c + (En F N c - c))) (iI (hv')) (iI (mo')) (iI (k + 1)) := by
    intro hv' mo'
    unfold mL_node_257
    rw [nd4 T c c0 cN]
    simp only [Option.bind_some, iI_add]
    rw [t287, t287]
    by_cases q : hi < F (Dp F N c) - F c + 1
    · rw [if_neg (show ¬ iI (F (Dp F N c) - F c + 1) ≤ iI hi by rw [iI_le (by omega) (by omega) (by omega) (by omega)]; omega), if_pos q]
    · rw [if_pos (show iI (F (Dp F N c) - F c + 1) ≤ iI hi by rw [iI_le (by omega) (by omega) (by omega) (by omega)]; omega), if_neg q]
  have t241 : ∀ (hv' : Int), mL_node_241 (mL_node_95 f) (iI N) d lb (iI v) x2 (iI (F v)) x4 (iI (Cc F N v)) x6 x7 x8 x9 (iI s) (iI lv) (iI hi) (iI c) (iI mo) (iI k) (iI c) (iI (En F N c - c)) (iI hv') = mL_node_95 f (iI N) d lb (iI v) x2 (iI (F v)) x4 (iI (Cc F N v)) x6 x7 x8 x9 (iI (s + (En F N c - c))) (iI (lv + cnt (Lf F) (En F N c - c).toNat c)) (iI ((if hi < F (Dp F N c) - F c + 1 then F (Dp F N c) - F c + 1 else hi))) (iI (c + (En F N c - c))) (iI (hv')) (iI (if mo < En F N c - c then En F N c - c else mo)) (iI (k + 1)) := by
    intro hv'
    unfold mL_node_241
    rw [t257, t257]
    by_cases q : mo < En F N c - c
    · rw [if_neg (show ¬ iI (En F N c - c) ≤ iI mo by rw [iI_le (by omega) (by omega) (by omega) (by omega)]; omega), if_pos q]
    · rw [if_pos (show iI (En F N c - c) ≤ iI mo by rw [iI_le (by omega) (by omega) (by omega) (by omega)]; omega), if_neg q]
  have t213 : ∀ (y : Int), mL_node_213 (mL_node_95 f) (iI N) d lb (iI v) x2 (iI (F v)) x4 (iI (Cc F N v)) x6 x7 x8 x9 (iI s) (iI lv) (iI hi) (iI c) (iI hv) (iI mo) (iI k) (iI c) (iI y) (iI y) = mL_node_95 f (iI N) d lb (iI v) x2 (iI (F v)) x4 (iI (Cc F N v)) x6 x7 x8 x9 (iI (s + (En F N c - c))) (iI (lv + cnt (Lf F) (En F N c - c).toNat c)) (iI (if hi < F (Dp F N c) - F c + 1 then F (Dp F N c) - F c + 1 else hi)) (iI (c + (En F N c - c))) (iI (if mo < En F N c - c then c else hv)) (iI (if mo < En F N c - c then En F N c - c else mo)) (iI (k + 1)) := by
    intro y
    unfold mL_node_213
    rw [if_pos rfl, nd3 T c c0 cN, Option.bind_some, t241, t241]
    by_cases q : mo < En F N c - c
    · rw [if_neg (show ¬ iI (En F N c - c) ≤ iI mo by rw [iI_le (by omega) (by omega) (by omega) (by omega)]; omega), if_pos q, if_pos q]
    · rw [if_pos (show iI (En F N c - c) ≤ iI mo by rw [iI_le (by omega) (by omega) (by omega) (by omega)]; omega), if_neg q, if_neg q]
  have t180 : ∀ (y : Int), mL_node_180 (mL_node_95 f) (iI N) d lb (iI v) x2 (iI (F v)) x4 (iI (Cc F N v)) x6 x7 x8 x9 (iI s) (iI lv) (iI hi) (iI c) (iI hv) (iI mo) (iI k) (iI c) (iI y) (iI y) = mL_node_95 f (iI N) d lb (iI v) x2 (iI (F v)) x4 (iI (Cc F N v)) x6 x7 x8 x9 (iI (s + (En F N c - c))) (iI (lv + cnt (Lf F) (En F N c - c).toNat c)) (iI (if hi < F (Dp F N c) - F c + 1 then F (Dp F N c) - F c + 1 else hi)) (iI (c + (En F N c - c))) (iI (if mo < En F N c - c then c else hv)) (iI (if mo < En F N c - c then En F N c - c else mo)) (iI (k + 1)) := by
    intro y
    unfold mL_node_180
    rw [if_pos rfl, nb0 T c c0 cN, nx]
    simp only [Option.bind_some, iI_add]
    by_cases q : k + 1 = Cc F N v
    · rw [if_pos (show iI (k + 1) = iI (Cc F N v) by rw [q]), if_pos q, t213]
    · rw [if_neg (show ¬ iI (k + 1) = iI (Cc F N v) by rw [iI_eq (by omega) (by omega) (by omega) (by omega)]; exact q), if_neg q, chOf T v (k + 1) h h2 (by omega) (by omega), if_pos (show k + 1 < Cc F N v by omega), Option.bind_some, t213]
  rw [mL_node_95, if_neg (show ¬ iI (Cc F N v) ≤ iI k by rw [iI_le (by omega) (by omega) (by omega) (by omega)]; omega), chOf T v k h h2 hk (by omega), if_pos hk2, ← hc, Option.bind_some, if_pos rfl, nd1 T c c0 cN, pa, Option.bind_some, if_pos rfl, nd0 T c c0 cN, Option.bind_some, iI_add, if_pos (congrArg iI s3), nd5 T c c0 cN, pl, s4, Option.bind_some, if_pos rfl, nb1 T c c0 cN, sb, Option.bind_some]
  by_cases k0 : k = 0
  · rw [if_pos (show iI k = 0 by rw [k0]; rfl), if_pos k0, t180]
  · rw [if_neg (show ¬ iI k = 0 by rw [iI_zero, iI_eq (by omega) (by omega) (by omega) (by omega)]; exact k0), if_neg k0, iI_sub, chOf T v (k - 1) h h2 (by omega) (by omega), if_pos (show k - 1 < Cc F N v by omega), Option.bind_some, t180]
/-- what holds at the k-th child -/
def NI (F : Int → Int) (N v k lv hi hv mo : Int) : Prop := lv = (if Cc F N v = 0 then 1 else 0) + cnt (Lf F) (Sp F N v k - (v + 1)).toNat (v + 1) ∧ 0 ≤ hi ∧ hi ≤ 99 ∧ (∀ y, v < y → y < Sp F N v k → F y ≤ F v + hi) ∧ (hi = 0 ∨ ∃ y, v < y ∧ y < Sp F N v k ∧ F y = F v + hi) ∧ 0 ≤ mo ∧ mo ≤ 100 ∧ Lc F N v (En F N v - v - 1).toNat (v + 1) (-5) 0 = Lc F N v (En F N v - Sp F N v k).toNat (Sp F N v k) hv mo
theorem NI.next (T : TV N F G) (v k lv hi hv mo : Int) (h : 0 ≤ v) (h2 : v < N) (hk : 0 ≤ k) (hk2 : k < Cc F N v) (I : NI F N v k lv hi hv mo) (c : Int) (hc : c = Sp F N v k) : NI F N v (k + 1) (lv + cnt (Lf F) (En F N c - c).toNat c) (if hi < F (Dp F N c) - F c + 1 then F (Dp F N c) - F c + 1 else hi) (if mo < En F N c - c then c else hv) (if mo < En F N c - c then En F N c - c else mo) := by
  have hN := T.nn
  have en := T.en v h h2
  obtain ⟨s1, s2, s3, s4⟩ := T.spIn v k h h2 hk hk2
  have nx := T.spNext v k h h2 hk hk2
  obtain ⟨i1, i2, i3, i4, i5, i6, i7, i8⟩ := I
  rw [← hc] at s1 s2 s3 s4 nx i1 i4 i5 i8
  have ec := T.en c (by omega) (by omega)
  have ei := T.enIn v c h h2 s1 s2
  have dp := T.dpSpec c (by omega) (by omega)
  have dpb := T.bd (Dp F N c)
  have bc := T.bd c
  have bv := T.bd v
  have dpc := dp.2.2 c (by omega) (by omega)
  unfold NI
  rw [← nx]
  refine ⟨?_, ?_, ?_, fun y g1 g2 => ?_, ?_, ?_, ?_, ?_⟩
  · rw [i1, cnt_mid (Lf F) (v + 1) c (En F N c) (by omega) (by omega)]
    omega
  · split <;> omega
  · split <;> omega
  · by_cases q : y < c
    · have := i4 y g1 q
      split <;> omega
    · have := dp.2.2 y (by omega) g2
      split <;> omega
  · by_cases q : hi < F (Dp F N c) - F c + 1
    · rw [if_pos q]
      exact Or.inr ⟨Dp F N c, by omega, by omega, by omega⟩
    · rw [if_neg q]
      rcases i5 with g | ⟨y, g1, g2, g3⟩
      · exact Or.inl g
      · exact Or.inr ⟨y, g1, by omega, g3⟩
  · split <;> omega
  · split <;> omega
  · rw [i8, show (En F N v - c).toNat = ((En F N c - c - 1).toNat + (En F N v - En F N c).toNat) + 1 by omega, Lc, if_pos s3]
    have sk : ∀ (b m : Int), Lc F N v ((En F N c - c - 1).toNat + (En F N v - En F N c).toNat) (c + 1) b m = Lc F N v (En F N v - En F N c).toNat (En F N c) b m := by
      intro b m
      rw [Lc_skip F N v _ _ (c + 1) b m (fun y g1 g2 => by have := ec.2.2.1 y (by omega) (by omega); omega), show c + 1 + ((En F N c - c - 1).toNat : Int) = En F N c by omega]
    rw [sk, sk]
    by_cases q : mo < En F N c - c
    · rw [if_neg (by omega), if_pos q, if_pos q]
    · rw [if_pos (by omega), if_neg q, if_neg q]
theorem node_loop (T : TR N F G (iI N) d lb) (v : Int) (h : 0 ≤ v) (h2 : v < N) (x2 x4 x6 x7 x8 x9 : Int32) : ∀ (m f : Nat) (k lv hi hv mo : Int), m < f → k + m = Cc F N v → 0 ≤ k → NI F N v k lv hi hv mo → ∃ (lv' hi' hv' mo' : Int), NI F N v (Cc F N v) lv' hi' hv' mo' ∧ mL_node_95 f (iI N) d lb (iI v) x2 (iI (F v)) x4 (iI (Cc F N v)) x6 x7 x8 x9 (iI (Sp F N v k - v)) (iI (lv)) (iI (hi)) (iI (Sp F N v k)) (iI (hv)) (iI (mo)) (iI (k)) = mL_node_95 (f - m) (iI N) d lb (iI v) x2 (iI (F v)) x4 (iI (Cc F N v)) x6 x7 x8 x9 (iI (Sp F N v (Cc F N v) - v)) (iI (lv')) (iI (hi')) (iI (Sp F N v (Cc F N v))) (iI (hv')) (iI (mo')) (iI (Cc F N v)) := by
  intro m
  induction m with
  | zero =>
    intro f k lv hi hv mo hf hk hk0 I
    have e : k = Cc F N v := by omega
    subst e
    exact ⟨lv, hi, hv, mo, I, rfl⟩
  | succ m ih =>
    intro f k lv hi hv mo hf hk hk0 I
    obtain ⟨f, rfl⟩ : ∃ g, f = g + 1 := ⟨f - 1, by omega⟩
    have hk2 : k < Cc F N v := by omega
    have I2 := NI.next T.1 v k lv hi hv mo h h2 hk0 hk2 I (Sp F N v k) rfl
    obtain ⟨lv', hi', hv', mo', J, e⟩ := ih f (k + 1) _ _ _ _ (by omega) (by omega) (by omega) I2
    refine ⟨lv', hi', hv', mo', J, ?_⟩
    rw [node_step T v h h2 x2 x4 x6 x7 x8 x9 f (Sp F N v k - v) lv hi (Sp F N v k) hv mo k hk0 hk2 rfl I.2.1 (by have := I.2.2.1; omega) I.2.2.2.2.2.1 I.2.2.2.2.2.2.1]
    have nx := T.1.spNext v k h h2 hk0 hk2
    rw [show Sp F N v k + (En F N (Sp F N v k) - Sp F N v k) = Sp F N v (k + 1) by omega, show Sp F N v k - v + (En F N (Sp F N v k) - Sp F N v k) = Sp F N v (k + 1) - v by omega, show f + 1 - (m + 1) = f - m by omega]
    exact e
theorem node_606 (T : TR N F G (iI N) d lb) (v y : Int) (h : 0 ≤ v) (h2 : v < N) : mL_node_606 (iI N) d lb (iI v) (iI (F v)) (iI (En F N v - v)) (iI (F (Dp F N v) - F v)) (iI 1) (iI 1) (iI y) (iI y) = some (iI 1) := by
  have hN := T.1.nn
  have en := T.1.en v h h2
  have dp := T.1.dpSpec v h h2
  unfold mL_node_606
  rw [if_pos rfl, nd9 T v h h2, Option.bind_some, dpOf T v h h2, Option.bind_some, if_neg (show ¬ iI (Dp F N v) < iI v by rw [iI_lt (by omega) (by omega) (by omega) (by omega)]; omega), iI_add, if_neg (show ¬ iI (v + (En F N v - v)) ≤ iI (Dp F N v) by rw [iI_le (by omega) (by omega) (by omega) (by omega)]; omega), nd0 T (Dp F N v) (by omega) (by omega), Option.bind_some, iI_add, if_pos (congrArg iI (show F (Dp F N v) = F v + (F (Dp F N v) - F v) by omega)), iI_sub, iI_sub, if_pos (congrArg iI (show Rk F N v = v + (En F N v - v) - 1 - F v by unfold Rk; omega)), bpOf T v h h2, Option.bind_some, if_pos rfl, if_neg e10, if_neg e10, if_neg e10, if_neg e10]
theorem node_465 (T : TR N F G (iI N) d lb) (v : Int) (h : 0 ≤ v) (h2 : v < N) : mL_node_465 (iI N) d lb (iI v) (iI (F v)) (iI (Pa F v)) (iI (En F N v - v)) (iI (F (Dp F N v) - F v)) (iI (2 * v - F v)) (iI (2 * v - F v + 2 * (En F N v - v) - 1)) (iI 1) (iI 1) = some (iI 1) := by
  have hN := T.1.nn
  unfold mL_node_465
  rw [iI_sub, iI_mul, iI_sub, if_pos (congrArg iI (show 2 * v - F v + 2 * (En F N v - v) - 1 - (2 * v - F v) = 2 * (En F N v - v) - 1 by omega)), iI_mul, iI_sub, if_pos rfl, bo0 T v h h2, Option.bind_some, if_pos rfl, bc0 T v h h2, Option.bind_some, if_pos e00, bo2 T v h h2, Option.bind_some, if_pos rfl, bc2 T v h h2, Option.bind_some, if_pos rfl, bo4 T v h h2, Option.bind_some, if_pos rfl, bc4 T v h h2, Option.bind_some, if_pos rfl, bo1 T v h h2, Option.bind_some, iI_add, if_pos rfl, bc1 T v h h2, Option.bind_some, if_pos rfl, bc3 T v h h2, Option.bind_some]
  by_cases z : v = 0
  · rw [if_pos (show iI v = 0 by rw [z]; rfl), if_pos z]
    exact node_606 T v (-5) h h2
  · have pa := T.1.paSpec v (by omega) h2
    rw [if_neg (show ¬ iI v = 0 by rw [iI_zero, iI_eq (by omega) (by omega) (by omega) (by omega)]; exact z), if_neg z, nd7 T (Pa F v) pa.1 (by omega), Option.bind_some]
    exact node_606 T v _ h h2
theorem node_end (T : TR N F G (iI N) d lb) (v : Int) (h : 0 ≤ v) (h2 : v < N) (f : Nat) (lv hi hv mo : Int) (I : NI F N v (Cc F N v) lv hi hv mo) : mL_node_95 (f + 1) (iI N) d lb (iI v) (iI N) (iI (F v)) (iI (Pa F v)) (iI (Cc F N v)) (iI (En F N v - v)) (iI (F (Dp F N v) - F v)) (iI (2 * v - F v)) (iI (2 * v - F v + 2 * (En F N v - v) - 1)) (iI (Sp F N v (Cc F N v) - v)) (iI lv) (iI hi) (iI (Sp F N v (Cc F N v))) (iI hv) (iI mo) (iI (Cc F N v)) = some (iI 1) := by
  have hN := T.1.nn
  have cc := T.1.cc v h h2
  have c0 := T.1.cc0 v h h2
  have en := T.1.en v h h2
  have dp := T.1.dpSpec v h h2
  have dpv := dp.2.2 v (by omega) (by omega)
  have bv := T.1.bd v
  have bpa : -5 ≤ Pa F v ∧ Pa F v < N := by
    by_cases z : v = 0
    · unfold Pa; rw [if_pos z]; omega
    · have := T.1.paSpec v (by omega) h2; omega
  obtain ⟨i1, i2, i3, i4, i5, i6, i7, i8⟩ := I
  rw [T.1.spEnd v _ (Int.le_refl _)] at i1 i4 i5 i8 ⊢
  have elv : lv = cnt (Lf F) (En F N v - v).toNat v := by
    rw [i1, cnt_mid (Lf F) v (v + 1) (En F N v) (by omega) (by omega)]
    by_cases q : Cc F N v = 0
    · rw [if_pos q, cnt_one (c0.2.mp q)]
    · rw [if_neg q, cnt_oneNo (fun w => q (c0.2.mpr w))]
  have ehi : hi = F (Dp F N v) - F v := by
    have a : F (Dp F N v) ≤ F v + hi := by
      by_cases q : Dp F N v = v
      · rw [q]; omega
      · exact i4 _ (by omega) (by omega)
    rcases i5 with g | ⟨y, g1, g2, g3⟩
    · omega
    · have := dp.2.2 y (by omega) g2
      omega
  have ehv : Lc F N v (En F N v - v - 1).toNat (v + 1) (-5) 0 = hv := by
    rw [i8, show (En F N v - En F N v).toNat = 0 by omega, Lc]
  rw [mL_node_95, if_pos (show iI (Cc F N v) ≤ iI (Cc F N v) by rw [iI_le (by omega) (by omega) (by omega) (by omega)]; omega), if_pos rfl, nd6 T v h h2, Option.bind_some, if_pos (congrArg iI elv), if_pos (congrArg iI ehi), nb5 T v h h2, Option.bind_some, if_pos (congrArg iI ehv.symm), chOf T v (Cc F N v) h h2 cc.1 (by omega), if_neg (show ¬ Cc F N v < Cc F N v by omega), Option.bind_some, if_pos rfl, chNeg T v h h2, Option.bind_some, if_pos rfl]
  by_cases z : v = 0
  · have e1 := T.1.en0
    have p0 : Pa F v = -5 := by unfold Pa; rw [if_pos z]
    have nx : Nx F N v = -5 := by unfold Nx; rw [z, e1, if_neg (by omega)]
    have f0 := T.1.2.2.1
    have lo : Lo F (F v) (v - 1) = -1 := by rw [z]; rfl
    have sb : Sb F v = -5 := by unfold Sb; rw [lo, if_neg (by omega)]
    have pl : Pl F (F v) v.toNat (v - 1) = 0 := by rw [z]; rfl
    have r := node_465 T v h h2
    rw [if_pos (show iI v = 0 by rw [z]; rfl), if_pos (congrArg iI p0), if_pos (show iI (F v) = 0 by rw [z, f0]; rfl), if_pos (congrArg iI (show En F N v - v = N by rw [z, e1]; omega)), nd5 T v h h2, pl, Option.bind_some, if_pos e00, nb0 T v h h2, nx, Option.bind_some, if_pos rfl, nb1 T v h h2, sb, Option.bind_some, if_pos rfl]
    exact r
  · have pa := T.1.paSpec v (by omega) h2
    rw [if_neg (show ¬ iI v = 0 by rw [iI_zero, iI_eq (by omega) (by omega) (by omega) (by omega)]; exact z), if_neg (show ¬ iI (Pa F v) < 0 by rw [iI_zero, iI_lt (by omega) (by omega) (by omega) (by omega)]; omega), if_neg (show ¬ iI v ≤ iI (Pa F v) by rw [iI_le (by omega) (by omega) (by omega) (by omega)]; omega)]
    exact node_465 T v h h2
theorem node_ok (T : TR N F G (iI N) d lb) (v : Int) (h : 0 ≤ v) (h2 : v < N) : mL_node (iI N) d lb (iI v) = some (iI 1) := by
  have hN := T.1.nn
  have cc := T.1.cc v h h2
  have en := T.1.en v h h2
  have s0 := T.1.sp0 v h h2
  have go : ∀ lv : Int, lv = (if Cc F N v = 0 then 1 else 0) → mL_node_75 (iI N) d lb (iI v) (iI N) (iI (F v)) (iI (Pa F v)) (iI (Cc F N v)) (iI (En F N v - v)) (iI (F (Dp F N v) - F v)) (iI (2 * v - F v)) (iI (2 * v - F v + 2 * (En F N v - v) - 1)) (iI 1) (iI lv) = some (iI 1) := by
    intro lv hl
    have I : NI F N v 0 lv 0 (-5) 0 := by
      refine ⟨?_, by omega, by omega, fun y g1 g2 => by omega, Or.inl rfl, by omega, by omega, ?_⟩
      · rw [s0, show (v + 1 - (v + 1)).toNat = 0 by omega, cnt, hl]; omega
      · rw [s0, show En F N v - v - 1 = En F N v - (v + 1) by omega]
    obtain ⟨lv', hi', hv', mo', J, e⟩ := node_loop T v h h2 (iI N) (iI (Pa F v)) (iI (En F N v - v)) (iI (F (Dp F N v) - F v)) (iI (2 * v - F v)) (iI (2 * v - F v + 2 * (En F N v - v) - 1)) (Cc F N v).toNat FU 0 lv 0 (-5) 0 (by rw [FU_big]; omega) (by omega) (by omega) I
    rw [s0, show v + 1 - v = 1 by omega] at e
    unfold mL_node_75
    rw [iI_add]
    refine e.trans ?_
    rw [FU_big]
    obtain ⟨g, hg⟩ : ∃ g, 4096 - (Cc F N v).toNat = g + 1 := ⟨4095 - (Cc F N v).toNat, by omega⟩
    rw [hg]
    exact node_end T v h h2 g lv' hi' hv' mo' J
  unfold mL_node mX4_size mX3_count
  rw [nd0 T v h h2, nd1 T v h h2, nd2 T v h h2, nd3 T v h h2, nd4 T v h h2, nd7 T v h h2, nd8 T v h h2]
  simp only [Option.bind_some]
  by_cases z : Cc F N v = 0
  · rw [if_pos (show iI (Cc F N v) = 0 by rw [z]; rfl)]
    exact go 1 (by rw [if_pos z])
  · rw [if_neg (show ¬ iI (Cc F N v) = 0 by rw [iI_zero, iI_eq (by omega) (by omega) (by omega) (by omega)]; exact z)]
    exact go 0 (by rw [if_neg z])
end NODE
