/-! 36 (out of whole's 22 to 25) -/
/-! 22: edits: what they do to rows, and to a tree -/
section EDIT
variable {N : Int} {F G : Int → Int}
theorem dRaw (N z : Int) (d : Nat → Int32) (hN : N ≤ 100) (h1 : 0 ≤ z) (h2 : z < N) : mX3_depthOf (iI N) d (iI z) = d z.toNat := by
  unfold mX3_depthOf mX3_has
  rw [if_neg (show ¬ iI z < 0 by rw [iI_zero, iI_lt (by omega) (by omega) (by omega) (by omega)]; omega), if_neg (show ¬ iI N ≤ iI z by rw [iI_le (by omega) (by omega) (by omega) (by omega)]; omega), if_neg e10]
  exact getOf 100 d z (by omega) h1 (by omega)
theorem lRaw (z : Int) (lb : Nat → Int32) (h1 : 0 ≤ z) (h2 : z < 100) : mX3_labelOf lb (iI z) = lb z.toNat := getOf 100 lb z (by omega) h1 h2
theorem nodePut (d lb : Nat → Int32) (z : Int) (x y : Int32) (h1 : 0 ≤ z) (h2 : z < 100) : mX3_putNode d lb (iI z) x y = (upd d z.toNat x, upd lb z.toNat y) := by
  unfold mX3_putNode
  rw [putOf 100 _ _ _ (by omega) h1 h2, putOf 100 _ _ _ (by omega) h1 h2]
theorem openGap_7 (N st m : Int) (hN : 0 ≤ N) (hs : 0 ≤ st) (hm : 1 ≤ m) (hNm : N + m ≤ 100) : ∀ (k f : Nat) (x : Int) (d lb : Nat → Int32), k < f → x + 1 = st + k → x < N → ∃ d' lb' : Nat → Int32, mX3_openGap_7 f (iI N) d lb (iI st) (iI m) (iI x) = some (iI (N + m), d', lb') ∧ (∀ j : Nat, st + m ≤ j → (j : Int) ≤ x + m → d' j = d (j - m).toNat ∧ lb' j = lb (j - m).toNat) ∧ (∀ j : Nat, (j : Int) < st + m ∨ x + m < j → d' j = d j ∧ lb' j = lb j) := by
  intro k
  induction k with
  | zero =>
    intro f x d lb hf hx hx2
    obtain ⟨f, rfl⟩ : ∃ g, f = g + 1 := ⟨f - 1, by omega⟩
    refine ⟨d, lb, ?_, fun j h1 h2 => absurd h2 (by omega), fun j _ => ⟨rfl, rfl⟩⟩
    rw [mX3_openGap_7, if_pos (by rw [iI_lt (by omega) (by omega) (by omega) (by omega)]; omega)]
    simp only [iMin]
    simp (disch := omega) only [iI_zero, iI_len, iI_le, iI_lt, iI_eq, iI_add, iI_sub, iI_mul, Option.bind_some, iI_ite]
    rw [if_neg (by omega)]
  | succ k ih =>
    intro f x d lb hf hx hx2
    obtain ⟨f, rfl⟩ : ∃ g, f = g + 1 := ⟨f - 1, by omega⟩
    obtain ⟨d', lb', h1, h2, h3⟩ := ih f (x - 1) (upd d (x + m).toNat (d x.toNat)) (upd lb (x + m).toNat (lb x.toNat)) (by omega) (by omega) (by omega)
    refine ⟨d', lb', ?_, fun j g1 g2 => ?_, fun j hj => ?_⟩
    · rw [mX3_openGap_7, dRaw N x d (by omega) (by omega) hx2, lRaw x lb (by omega) (by omega), iI_add x m, nodePut _ _ _ _ _ (by omega) (by omega), if_neg (by rw [iI_lt (by omega) (by omega) (by omega) (by omega)]; omega), iI_add]
      exact h1
    · by_cases q : (j : Int) = x + m
      · have := h3 j (Or.inr (by omega))
        rw [this.1, this.2, upd_in (by omega), upd_in (by omega), show (j - m).toNat = x.toNat by omega]
        exact ⟨rfl, rfl⟩
      · have := h2 j g1 (by omega)
        rw [this.1, this.2, upd_ne (by omega), upd_ne (by omega)]
        exact ⟨rfl, rfl⟩
    · have := h3 j (by omega)
      rw [this.1, this.2, upd_ne (by omega), upd_ne (by omega)]
      exact ⟨rfl, rfl⟩
theorem openGapOf (N st m : Int) (d lb : Nat → Int32) (hN : 0 ≤ N) (hs : 0 ≤ st) (hs2 : st ≤ N) (hm : 1 ≤ m) (hNm : N + m ≤ 100) : ∃ d' lb' : Nat → Int32, mX3_openGap (iI N) d lb (iI st) (iI m) = some (iI (N + m), d', lb') ∧ (∀ j : Nat, st + m ≤ j → (j : Int) < N + m → d' j = d (j - m).toNat ∧ lb' j = lb (j - m).toNat) ∧ (∀ j : Nat, (j : Int) < st + m → d' j = d j ∧ lb' j = lb j) := by
  obtain ⟨d', lb', h1, h2, h3⟩ := openGap_7 N st m hN hs hm hNm (N - st).toNat FU (N - 1) d lb (by rw [FU_big]; omega) (by omega) (by omega)
  refine ⟨d', lb', ?_, fun j g1 g2 => h2 j g1 (by omega), fun j hj => h3 j (Or.inl hj)⟩
  unfold mX3_openGap
  rw [iI_sub]
  exact h1
theorem closeGap_4 (N st m : Int) (a : Int32) (hs : 0 ≤ st) (hm : 1 ≤ m) (hsm : st + m ≤ N) (hN : N ≤ 100) : ∀ (k f : Nat) (x : Int) (d lb : Nat → Int32), k < f → x + k = N → st + m ≤ x → ∃ d' lb' : Nat → Int32, mX3_closeGap_4 f (iI N) d lb a (iI m) (iI x) = some (iI (N - m), d', lb') ∧ (∀ j : Nat, x - m ≤ j → (j : Int) < N - m → d' j = d (j + m).toNat ∧ lb' j = lb (j + m).toNat) ∧ (∀ j : Nat, (j : Int) < x - m → d' j = d j ∧ lb' j = lb j) := by
  intro k
  induction k with
  | zero =>
    intro f x d lb hf hx hx2
    obtain ⟨f, rfl⟩ : ∃ g, f = g + 1 := ⟨f - 1, by omega⟩
    refine ⟨d, lb, ?_, fun j h1 h2 => absurd h2 (by omega), fun j _ => ⟨rfl, rfl⟩⟩
    rw [mX3_closeGap_4, if_pos (by rw [iI_le (by omega) (by omega) (by omega) (by omega)]; omega)]
    simp only [iMax]
    simp (disch := omega) only [iI_zero, iI_len, iI_le, iI_lt, iI_eq, iI_add, iI_sub, iI_mul, Option.bind_some, iI_ite]
    rw [if_neg (by omega)]
  | succ k ih =>
    intro f x d lb hf hx hx2
    obtain ⟨f, rfl⟩ : ∃ g, f = g + 1 := ⟨f - 1, by omega⟩
    obtain ⟨d', lb', h1, h2, h3⟩ := ih f (x + 1) (upd d (x - m).toNat (d x.toNat)) (upd lb (x - m).toNat (lb x.toNat)) (by omega) (by omega) (by omega)
    refine ⟨d', lb', ?_, fun j g1 g2 => ?_, fun j hj => ?_⟩
    · rw [mX3_closeGap_4, dRaw N x d (by omega) (by omega) (by omega), lRaw x lb (by omega) (by omega), iI_sub x m, nodePut _ _ _ _ _ (by omega) (by omega), if_neg (by rw [iI_le (by omega) (by omega) (by omega) (by omega)]; omega), iI_add]
      exact h1
    · by_cases q : (j : Int) = x - m
      · have := h3 j (by omega)
        rw [this.1, this.2, upd_in (by omega), upd_in (by omega), show (j + m).toNat = x.toNat by omega]
        exact ⟨rfl, rfl⟩
      · have := h2 j (by omega) g2
        rw [this.1, this.2, upd_ne (by omega), upd_ne (by omega)]
        exact ⟨rfl, rfl⟩
    · have := h3 j (by omega)
      rw [this.1, this.2, upd_ne (by omega), upd_ne (by omega)]
      exact ⟨rfl, rfl⟩
theorem closeGapOf (N st m : Int) (d lb : Nat → Int32) (hs : 0 ≤ st) (hm : 1 ≤ m) (hsm : st + m ≤ N) (hN : N ≤ 100) : ∃ d' lb' : Nat → Int32, mX3_closeGap (iI N) d lb (iI st) (iI m) = some (iI (N - m), d', lb') ∧ (∀ j : Nat, st ≤ j → (j : Int) < N - m → d' j = d (j + m).toNat ∧ lb' j = lb (j + m).toNat) ∧ (∀ j : Nat, (j : Int) < st → d' j = d j ∧ lb' j = lb j) := by
  obtain ⟨d', lb', h1, h2, h3⟩ := closeGap_4 N st m (iI st) hs hm hsm hN (N - st - m).toNat FU (st + m) d lb (by rw [FU_big]; omega) (by omega) (by omega)
  refine ⟨d', lb', ?_, fun j g1 g2 => h2 j (by omega) g2, fun j hj => h3 j (by omega)⟩
  unfold mX3_closeGap
  rw [iI_add]
  exact h1
theorem sink_3 (N e l : Int) (a : Int32) (he : e ≤ N) (hN : N ≤ 100) : ∀ (k f : Nat) (x : Int) (d lb : Nat → Int32), k < f → 0 ≤ x → x + k = e → ∃ d' lb' : Nat → Int32, mX3_sink_3 f (iI N) d lb a (iI e) (iI l) (iI x) = some (d', lb') ∧ (∀ j : Nat, x ≤ j → (j : Int) < e → d' j = d j + iI l) ∧ (∀ j : Nat, (j : Int) < x ∨ e ≤ j → d' j = d j) ∧ (∀ j : Nat, lb' j = lb j) := by
  intro k
  induction k with
  | zero =>
    intro f x d lb hf h0 hx
    obtain ⟨f, rfl⟩ : ∃ g, f = g + 1 := ⟨f - 1, by omega⟩
    refine ⟨d, lb, ?_, fun j h1 h2 => absurd h2 (by omega), fun j _ => rfl, fun j => rfl⟩
    rw [mX3_sink_3, if_pos (by rw [iI_le (by omega) (by omega) (by omega) (by omega)]; omega)]
  | succ k ih =>
    intro f x d lb hf h0 hx
    obtain ⟨f, rfl⟩ : ∃ g, f = g + 1 := ⟨f - 1, by omega⟩
    obtain ⟨d', lb', h1, h2, h3, h4⟩ := ih f (x + 1) (upd d x.toNat (d x.toNat + iI l)) (upd lb x.toNat (lb x.toNat)) (by omega) (by omega) (by omega)
    refine ⟨d', lb', ?_, fun j g1 g2 => ?_, fun j hj => ?_, fun j => ?_⟩
    · rw [mX3_sink_3, dRaw N x d (by omega) h0 (by omega), lRaw x lb h0 (by omega), nodePut _ _ _ _ _ h0 (by omega), if_neg (by rw [iI_le (by omega) (by omega) (by omega) (by omega)]; omega), iI_add]
      exact h1
    · by_cases q : (j : Int) = x
      · rw [h3 j (by omega), upd_in (by omega), show x.toNat = j by omega]
      · rw [h2 j (by omega) g2, upd_ne (by omega)]
    · rw [h3 j (by omega), upd_ne (by omega)]
    · rw [h4 j]
      by_cases q : j = x.toNat
      · rw [upd_in q, q]
      · rw [upd_ne q]
theorem sinkOf (N st e l : Int) (d lb : Nat → Int32) (hs : 0 ≤ st) (hse : st ≤ e) (he : e ≤ N) (hN : N ≤ 100) : ∃ d' lb' : Nat → Int32, mX3_sink (iI N) d lb (iI st) (iI e) (iI l) = some (d', lb') ∧ (∀ j : Nat, st ≤ j → (j : Int) < e → d' j = d j + iI l) ∧ (∀ j : Nat, (j : Int) < st ∨ e ≤ j → d' j = d j) ∧ (∀ j : Nat, lb' j = lb j) := by
  unfold mX3_sink
  exact sink_3 N e l _ he hN (e - st).toNat FU st d lb (by rw [FU_big]; omega) hs (by omega)
theorem hold_2 (N v m : Int) (d lb : Nat → Int32) (hv : 0 ≤ v) (hvm : v + m ≤ N) (hm1 : 1 ≤ m) (hN : N ≤ 100) : ∀ (k f : Nat) (x : Int) (xd xl : Nat → Int32), k < f → 0 ≤ x → x + k = m → ∃ xd' xl' : Nat → Int32, mX3_hold_2 f (iI N) d lb xd xl (iI v) (iI m) (iI x) = some (xd', xl') ∧ (∀ i : Int, x ≤ i → i < m → xd' i.toNat = d (v + i).toNat - d v.toNat ∧ xl' i.toNat = lb (v + i).toNat) ∧ (∀ j : Nat, (j : Int) < x → xd' j = xd j ∧ xl' j = xl j) := by
  intro k
  induction k with
  | zero =>
    intro f x xd xl hf h0 hx
    obtain ⟨f, rfl⟩ : ∃ g, f = g + 1 := ⟨f - 1, by omega⟩
    refine ⟨xd, xl, ?_, fun i h1 h2 => absurd h2 (by omega), fun j _ => ⟨rfl, rfl⟩⟩
    rw [mX3_hold_2, if_pos (by rw [iI_le (by omega) (by omega) (by omega) (by omega)]; omega)]
  | succ k ih =>
    intro f x xd xl hf h0 hx
    obtain ⟨f, rfl⟩ : ∃ g, f = g + 1 := ⟨f - 1, by omega⟩
    obtain ⟨xd', xl', h1, h2, h3⟩ := ih f (x + 1) (upd xd x.toNat (d (v + x).toNat - d v.toNat)) (upd xl x.toNat (lb (v + x).toNat)) (by omega) (by omega) (by omega)
    refine ⟨xd', xl', ?_, fun i g1 g2 => ?_, fun j hj => ?_⟩
    · rw [mX3_hold_2, iI_add v x, dRaw N (v + x) d (by omega) (by omega) (by omega), dRaw N v d (by omega) hv (by omega), lRaw (v + x) lb (by omega) (by omega), putOf 100 _ _ _ (by omega) h0 (by omega), putOf 100 _ _ _ (by omega) h0 (by omega), if_neg (by rw [iI_le (by omega) (by omega) (by omega) (by omega)]; omega), iI_add]
      exact h1
    · by_cases q : i = x
      · have := h3 i.toNat (by omega)
        rw [this.1, this.2, upd_in (by rw [q]), upd_in (by rw [q]), q]
        exact ⟨rfl, rfl⟩
      · exact h2 i (by omega) g2
    · have := h3 j (by omega)
      rw [this.1, this.2, upd_ne (by omega), upd_ne (by omega)]
      exact ⟨rfl, rfl⟩
theorem holdOf (N v m : Int) (d lb xd xl : Nat → Int32) (hv : 0 ≤ v) (hvm : v + m ≤ N) (hm1 : 1 ≤ m) (hN : N ≤ 100) : ∃ xd' xl' : Nat → Int32, mX3_hold (iI N) d lb xd xl (iI v) (iI m) = some (xd', xl') ∧ (∀ i : Int, 0 ≤ i → i < m → xd' i.toNat = d (v + i).toNat - d v.toNat ∧ xl' i.toNat = lb (v + i).toNat) := by
  obtain ⟨xd', xl', h1, h2, h3⟩ := hold_2 N v m d lb hv hvm hm1 hN m.toNat FU 0 xd xl (by rw [FU_big]; omega) (by omega) (by omega)
  exact ⟨xd', xl', h1, h2⟩
theorem release_3 (s m : Int) (e : Int32) (xd xl : Nat → Int32) (hs : 0 ≤ s) (hsm : s + m ≤ 100) : ∀ (k f : Nat) (x : Int) (d lb : Nat → Int32), k < f → 0 ≤ x → x + k = m → ∃ d' lb' : Nat → Int32, mX3_release_3 f d lb xd xl (iI s) (iI m) e (iI x) = some (d', lb') ∧ (∀ i : Int, x ≤ i → i < m → d' (s + i).toNat = xd i.toNat + e ∧ lb' (s + i).toNat = xl i.toNat) ∧ (∀ j : Nat, (j : Int) < s + x ∨ s + m ≤ j → d' j = d j ∧ lb' j = lb j) := by
  intro k
  induction k with
  | zero =>
    intro f x d lb hf h0 hx
    obtain ⟨f, rfl⟩ : ∃ g, f = g + 1 := ⟨f - 1, by omega⟩
    refine ⟨d, lb, ?_, fun i h1 h2 => absurd h2 (by omega), fun j _ => ⟨rfl, rfl⟩⟩
    rw [mX3_release_3, if_pos (by rw [iI_le (by omega) (by omega) (by omega) (by omega)]; omega)]
  | succ k ih =>
    intro f x d lb hf h0 hx
    obtain ⟨f, rfl⟩ : ∃ g, f = g + 1 := ⟨f - 1, by omega⟩
    obtain ⟨d', lb', h1, h2, h3⟩ := ih f (x + 1) (upd d (s + x).toNat (xd x.toNat + e)) (upd lb (s + x).toNat (xl x.toNat)) (by omega) (by omega) (by omega)
    refine ⟨d', lb', ?_, fun i g1 g2 => ?_, fun j hj => ?_⟩
    · rw [mX3_release_3, iI_add s x, getOf 100 _ _ (by omega) h0 (by omega), getOf 100 _ _ (by omega) h0 (by omega), nodePut _ _ _ _ _ (by omega) (by omega), if_neg (by rw [iI_le (by omega) (by omega) (by omega) (by omega)]; omega), iI_add]
      exact h1
    · by_cases q : i = x
      · have := h3 (s + i).toNat (by omega)
        rw [this.1, this.2, upd_in (by rw [q]), upd_in (by rw [q]), q]
        exact ⟨rfl, rfl⟩
      · exact h2 i (by omega) g2
    · have := h3 j (by omega)
      rw [this.1, this.2, upd_ne (by omega), upd_ne (by omega)]
      exact ⟨rfl, rfl⟩
theorem releaseOf (s m : Int) (e : Int32) (d lb xd xl : Nat → Int32) (hs : 0 ≤ s) (hm : 0 ≤ m) (hsm : s + m ≤ 100) : ∃ d' lb' : Nat → Int32, mX3_release d lb xd xl (iI s) (iI m) e = some (d', lb') ∧ (∀ i : Int, 0 ≤ i → i < m → d' (s + i).toNat = xd i.toNat + e ∧ lb' (s + i).toNat = xl i.toNat) ∧ (∀ j : Nat, (j : Int) < s ∨ s + m ≤ j → d' j = d j ∧ lb' j = lb j) := by
  obtain ⟨d', lb', h1, h2, h3⟩ := release_3 s m e xd xl hs hsm m.toNat FU 0 d lb (by rw [FU_big]; omega) (by omega) (by omega)
  exact ⟨d', lb', h1, h2, fun j hj => h3 j (by omega)⟩
/-! the reference's -/
/-! trees -/
theorem kth_mono (p : Int → Bool) (e : Int) : ∀ (k : Nat) (x j m : Int), x + k ≤ e → 0 ≤ j → 0 ≤ m → kth p e k x j ≤ kth p e k x (j + m)
  | 0, x, j, m, _, _, _ => Int.le_refl _
  | k + 1, x, j, m, h, h2, h3 => by
    by_cases c : p x = true
    · by_cases q : j = 0
      · rw [kth_here c q]
        by_cases t : j + m = 0
        · rw [kth_here c t]; exact Int.le_refl _
        · rw [kth_yes c t]
          rcases kth_bd p e k (x + 1) (j + m - 1) with g | g <;> omega
      · rw [kth_yes c q, kth_yes c (by omega), show j + m - 1 = j - 1 + m by omega]
        exact kth_mono p e k (x + 1) (j - 1) m (by omega) (by omega) h3
    · rw [kth_no c, kth_no c]
      exact kth_mono p e k (x + 1) j m (by omega) h2 h3
theorem TV.sp (T : TV N F G) (p j : Int) (h : 0 ≤ p) (h2 : p < N) : p < Sp F N p j ∧ Sp F N p j ≤ En F N p ∧ Sp F N p j ≤ N ∧ F (Sp F N p j) ≤ F p + 1 := by
  have e := T.en p h h2
  rcases kth_bd (Ch F p) (En F N p) (En F N p - p - 1).toNat (p + 1) j with g | g
  · have q : Sp F N p j = En F N p := g
    rw [q]; omega
  · have q0 : Ch F p (Sp F N p j) = true := g.2.2
    have q : F (Sp F N p j) = F p + 1 := by simpa [Ch] using q0
    have g1 : p + 1 ≤ Sp F N p j := g.1
    have g2 : Sp F N p j < p + 1 + ((En F N p - p - 1).toNat : Int) := g.2.1
    omega
theorem TV.spMono (T : TV N F G) (p j m : Int) (h : 0 ≤ p) (h2 : p < N) (hj : 0 ≤ j) (hm : 0 ≤ m) : Sp F N p j ≤ Sp F N p (j + m) := by
  have e := T.en p h h2
  exact kth_mono _ _ _ _ _ _ (by omega) hj hm
/-- wrapped: a node comes in at s, what is from s to e goes down by one -/
def wrF (F : Int → Int) (p s e y : Int) : Int := if y < s then F y else if y = s then F p + 1 else if y ≤ e then F (y - 1) + 1 else F (y - 1)
def wrG (G : Int → Int) (s g y : Int) : Int := if y < s then G y else if y = s then g else G (y - 1)
theorem TV.wrap (T : TV N F G) (p s e g : Int) (hp : 0 ≤ p) (hs : p < s) (hs2 : s ≤ En F N p) (hp2 : p < N) (hF : F s ≤ F p + 1) (hse : s ≤ e) (he : e ≤ N) (hN : N < 100) (hg : 97 ≤ g) (hg2 : g ≤ 122) : TV (N + 1) (wrF F p s e) (wrG G s g) := by
  have n := T.nn
  have en := T.en p hp hp2
  refine ⟨by omega, by omega, ?_, fun i h1 h2 => ?_, fun i hi => ?_, fun i h1 h2 => ?_⟩
  · unfold wrF; rw [if_pos (by omega)]; exact T.2.2.1
  · unfold wrF
    have fp := T.bd p
    by_cases c1 : i < s
    · have t := T.2.2.2.1 i h1 (by omega)
      rw [if_pos c1, if_pos (by omega)]
      exact t
    · rw [if_neg c1]
      by_cases c2 : i = s
      · rw [if_pos c2, if_pos (by omega)]
        have : F p ≤ F (i - 1) := by
          by_cases q : i - 1 = p
          · rw [q]; exact Int.le_refl _
          · have := en.2.2.1 (i - 1) (by omega) (by omega); omega
        omega
      · rw [if_neg c2, if_neg (by omega : ¬ i - 1 < s)]
        by_cases c3 : i - 1 = s
        · rw [if_pos c3]
          by_cases c4 : i ≤ e
          · rw [if_pos c4, c3]
            have := T.bd s
            omega
          · rw [if_neg c4, c3]
            have := T.pos s (by omega) (by omega)
            omega
        · rw [if_neg c3]
          have t := T.2.2.2.1 (i - 1) (by omega) (by omega)
          by_cases c4 : i ≤ e
          · rw [if_pos c4, if_pos (by omega)]
            omega
          · rw [if_neg c4]
            by_cases c5 : i - 1 ≤ e
            · rw [if_pos c5]; omega
            · rw [if_neg c5]; exact t
  · unfold wrF
    rcases hi with q | q
    · rw [if_pos (by omega)]; exact T.out i (Or.inl q)
    · rw [if_neg (by omega), if_neg (by omega), if_neg (by omega)]; exact T.out (i - 1) (by omega)
  · unfold wrG
    by_cases c1 : i < s
    · rw [if_pos c1]; exact T.lab i h1 (by omega)
    · rw [if_neg c1]
      by_cases c2 : i = s
      · rw [if_pos c2]; omega
      · rw [if_neg c2]; exact T.lab (i - 1) (by omega) (by omega)
/-- removed alone: what is below v, up to e, goes up by one -/
def reF (F : Int → Int) (v e y : Int) : Int := if y < v then F y else if y + 1 < e then F (y + 1) - 1 else F (y + 1)
/-- m places go out from v on -/
def cuF (F : Int → Int) (v m y : Int) : Int := if y < v then F y else F (y + m)
theorem TV.rem (T : TV N F G) (v : Int) (h : 0 < v) (h2 : v < N) : TV (N - 1) (reF F v (En F N v)) (cuF G v 1) := by
  have n := T.nn
  have en := T.en v (by omega) h2
  have pv := T.2.2.2.1 v h h2
  refine ⟨by omega, by omega, ?_, fun i h1 h3 => ?_, fun i hi => ?_, fun i h1 h3 => ?_⟩
  · unfold reF; rw [if_pos h]; exact T.2.2.1
  · unfold reF
    by_cases c1 : i < v
    · rw [if_pos c1, if_pos (by omega)]; exact T.2.2.2.1 i h1 (by omega)
    · have t := T.2.2.2.1 (i + 1) (by omega) (by omega)
      rw [show i + 1 - 1 = i by omega] at t
      rw [if_neg c1]
      by_cases c2 : i - 1 < v
      · have iv : i = v := by omega
        rw [if_pos c2, iv]
        rw [iv] at t
        by_cases c3 : v + 1 < En F N v
        · have := en.2.2.1 (v + 1) (by omega) c3
          rw [if_pos c3]
          omega
        · rw [if_neg c3]
          have : En F N v = v + 1 := by omega
          rw [this] at en
          omega
      · rw [if_neg c2, show i - 1 + 1 = i by omega]
        by_cases c3 : i + 1 < En F N v
        · have := en.2.2.1 (i + 1) (by omega) c3
          have := T.bd v
          rw [if_pos c3, if_pos (by omega)]
          omega
        · rw [if_neg c3]
          by_cases c4 : i < En F N v
          · have := en.2.2.1 i (by omega) c4
            have e1 : En F N v = i + 1 := by omega
            rw [e1] at en
            rw [if_pos c4]
            omega
          · rw [if_neg c4]; exact t
  · unfold reF
    rcases hi with q | q
    · rw [if_pos (by omega)]; exact T.out i (Or.inl q)
    · rw [if_neg (by omega), if_neg (by omega)]; exact T.out (i + 1) (by omega)
  · unfold cuF
    by_cases c1 : i < v
    · rw [if_pos c1]; exact T.lab i h1 (by omega)
    · rw [if_neg c1]; exact T.lab (i + 1) (by omega) (by omega)
theorem TV.cut (T : TV N F G) (v m : Int) (h : 0 < v) (h2 : v < N) (hm : m = En F N v - v) : TV (N - m) (cuF F v m) (cuF G v m) := by
  have n := T.nn
  have en := T.en v (by omega) h2
  have pv := T.2.2.2.1 v h h2
  refine ⟨by omega, by omega, ?_, fun i h1 h3 => ?_, fun i hi => ?_, fun i h1 h3 => ?_⟩
  · unfold cuF; rw [if_pos h]; exact T.2.2.1
  · unfold cuF
    by_cases c1 : i < v
    · rw [if_pos c1, if_pos (by omega)]; exact T.2.2.2.1 i h1 (by omega)
    · have t := T.2.2.2.1 (i + m) (by omega) (by omega)
      rw [if_neg c1]
      by_cases c2 : i - 1 < v
      · have iv : i = v := by omega
        rw [if_pos c2, iv, show v + m = En F N v by omega]
        rw [iv, show v + m = En F N v by omega] at t
        omega
      · rw [if_neg c2, show i - 1 + m = i + m - 1 by omega]
        exact t
  · unfold cuF
    rcases hi with q | q
    · rw [if_pos (by omega)]; exact T.out i (Or.inl q)
    · rw [if_neg (by omega)]; exact T.out (i + m) (by omega)
  · unfold cuF
    by_cases c1 : i < v
    · rw [if_pos c1]; exact T.lab i h1 (by omega)
    · rw [if_neg c1]; exact T.lab (i + m) (by omega) (by omega)
/-- m places with R come in at s -/
def inF (F R : Int → Int) (s m y : Int) : Int := if y < s then F y else if y < s + m then R (y - s) else F (y - m)
theorem TV.ins (T : TV N F G) (t s m : Int) (R L : Int → Int) (ht : 0 ≤ t) (ht2 : t < N) (hs : t < s) (hs2 : s ≤ En F N t) (hF : F s ≤ F t + 1) (hm : 1 ≤ m) (hNm : N + m ≤ 100) (hR : R 0 = F t + 1) (hR2 : ∀ i, 0 < i → i < m → F t + 1 ≤ R i ∧ R i ≤ R (i - 1) + 1) (hL : ∀ i, 0 ≤ i → i < m → 97 ≤ L i ∧ L i ≤ 122) : TV (N + m) (inF F R s m) (inF G L s m) := by
  have n := T.nn
  have en := T.en t ht ht2
  have bt := T.bd t
  refine ⟨by omega, by omega, ?_, fun i h1 h3 => ?_, fun i hi => ?_, fun i h1 h3 => ?_⟩
  · unfold inF; rw [if_pos (by omega)]; exact T.2.2.1
  · unfold inF
    by_cases c1 : i < s
    · rw [if_pos c1, if_pos (by omega)]; exact T.2.2.2.1 i h1 (by omega)
    · rw [if_neg c1]
      by_cases c2 : i < s + m
      · rw [if_pos c2]
        by_cases c3 : i = s
        · rw [if_pos (by omega), show i - s = 0 by omega, hR]
          have : F t ≤ F (i - 1) := by
            by_cases q : i - 1 = t
            · rw [q]; exact Int.le_refl _
            · have := en.2.2.1 (i - 1) (by omega) (by omega); omega
          omega
        · have := hR2 (i - s) (by omega) (by omega)
          rw [if_neg (by omega), if_pos (by omega), show i - 1 - s = i - s - 1 by omega]
          omega
      · rw [if_neg c2, if_neg (by omega)]
        have q := T.2.2.2.1 (i - m) (by omega) (by omega)
        by_cases c3 : i - 1 < s + m
        · rw [if_pos c3]
          have e1 : i - m = s := by omega
          rw [e1] at q ⊢
          have : F t + 1 ≤ R (i - 1 - s) := by
            by_cases z : i - 1 - s = 0
            · rw [z, hR]; exact Int.le_refl _
            · exact (hR2 (i - 1 - s) (by omega) (by omega)).1
          omega
        · rw [if_neg c3, show i - 1 - m = i - m - 1 by omega]
          exact q
  · unfold inF
    rcases hi with q | q
    · rw [if_pos (by omega)]; exact T.out i (Or.inl q)
    · rw [if_neg (by omega), if_neg (by omega)]; exact T.out (i - m) (by omega)
  · unfold inF
    by_cases c1 : i < s
    · rw [if_pos c1]; exact T.lab i h1 (by omega)
    · rw [if_neg c1]
      by_cases c2 : i < s + m
      · rw [if_pos c2]; exact hL (i - s) (by omega) (by omega)
      · rw [if_neg c2]; exact T.lab (i - m) (by omega) (by omega)
end EDIT

/-! 23: the steps that edit -/
theorem letterOf (g : Int) (h1 : -2147483648 ≤ g) (h2 : g < 2147483648) : mX4_isLetter (iI g) = iI (if 97 ≤ g ∧ g ≤ 122 then 1 else 0) := by
  unfold mX4_isLetter
  simp (disch := omega) only [iI_zero, iI_len, iI_le, iI_lt, iI_eq, iI_add, iI_sub, iI_mul, Option.bind_some]
  by_cases a : g < 97
  · rw [if_pos a, if_neg (by omega)]
  · rw [if_neg a]
    by_cases b : 122 < g
    · rw [if_pos b, if_neg (by omega)]
    · rw [if_neg b, if_pos (by omega)]
theorem iI_lt0 {a : Int} (h1 : -2147483648 ≤ a) (h2 : a < 2147483648) : (iI a < 0) = (a < 0) := by rw [iI_zero, iI_lt h1 h2 (by omega) (by omega)]
theorem iI_eq0 {a : Int} (h1 : -2147483648 ≤ a) (h2 : a < 2147483648) : (iI a = 0) = (a = 0) := by rw [iI_zero, iI_eq h1 h2 (by omega) (by omega)]
section ESTEP
variable {N : Int} {F G : Int → Int} {d lb : Nat → Int32}
theorem TR.nar (T : TR N F G (iI N) d lb) (j : Nat) (h : (j : Int) < N) : vp_nar .char (lb j) = lb j := by
  have b := T.1.lab j (by omega) h
  have := T.2.2.2 j (by omega) h
  rw [show ((j : Int)).toNat = j by omega] at this
  rw [this, narC (by omega) (by omega)]
theorem TR.dj (T : TR N F G (iI N) d lb) (j : Nat) (h : (j : Int) < N) : d j = iI (F j) ∧ lb j = iI (G j) := by
  have a := T.2.2.1 j (by omega) h
  have b := T.2.2.2 j (by omega) h
  rw [show ((j : Int)).toNat = j by omega] at a b
  exact ⟨a, b⟩
/-- the landed code's wrapping -/
theorem wrapCh (T : TR N F G (iI N) d lb) (p a c g : Int) (hp : 0 ≤ p) (hp2 : p < N) (ha : 0 ≤ a) (ha2 : a ≤ 1000) (hc : 0 ≤ c) (hc2 : c ≤ 1000) (hN : N < 100) : ∃ d' lb' : Nat → Int32, mX3_wrapChildren (iI N) d lb (iI p) (iI a) (iI c) (iI g) = some (iI (Sp F N p a), iI (N + 1), d', lb') ∧ (∀ i, 0 ≤ i → i < N + 1 → d' i.toNat = iI (wrF F p (Sp F N p a) (Sp F N p (a + c)) i)) ∧ (∀ i, 0 ≤ i → i < N + 1 → lb' i.toNat = iI (wrG G (Sp F N p a) g i)) := by
  have n := T.1.nn
  have s1 := T.1.sp p a hp hp2
  have s2 := T.1.sp p (a + c) hp hp2
  have sm := T.1.spMono p a c hp hp2 ha hc
  obtain ⟨s, hs⟩ : ∃ s, s = Sp F N p a := ⟨_, rfl⟩
  obtain ⟨e, he⟩ : ∃ e, e = Sp F N p (a + c) := ⟨_, rfl⟩
  obtain ⟨d1, l1, g1, g2, g3, g4⟩ := sinkOf N s e 1 d lb (by omega) (by omega) (by omega) (by omega)
  obtain ⟨d2, l2, k1, k2, k3⟩ := openGapOf N s 1 d1 l1 (by omega) (by omega) (by omega) (by omega) (by omega)
  have dp : d2 p.toNat = iI (F p) := by
    rw [(k3 p.toNat (by omega)).1, g3 p.toNat (by omega)]
    exact T.2.2.1 p hp hp2
  refine ⟨upd d2 s.toNat (iI (F p + 1)), upd l2 s.toNat (iI g), ?_, fun i h1 h2 => ?_, fun i h1 h2 => ?_⟩
  · unfold mX3_wrapChildren
    rw [iI_add a c, startOfPlaceOf T p a hp hp2 (by omega) (by omega), startOfPlaceOf T p (a + c) hp hp2 (by omega) (by omega)]
    simp only [Option.bind_some]
    rw [← hs, ← he, g1]
    simp only [Option.bind_some]
    rw [k1]
    simp only [Option.bind_some]
    rw [dRaw (N + 1) p d2 (by omega) hp (by omega), dp, iI_add, nodePut _ _ _ _ _ (by omega) (by omega)]
  · rw [← hs, ← he]
    unfold wrF
    by_cases c1 : i < s
    · rw [if_pos c1, upd_ne (by omega), (k3 i.toNat (by omega)).1, g3 i.toNat (by omega)]
      exact T.2.2.1 i h1 (by omega)
    · rw [if_neg c1]
      by_cases c2 : i = s
      · rw [if_pos c2, c2, upd_in rfl]
      · rw [if_neg c2, upd_ne (by omega), (k2 i.toNat (by omega) (by omega)).1, show ((i.toNat : Int) - 1).toNat = (i - 1).toNat by omega]
        have q := T.2.2.1 (i - 1) (by omega) (by omega)
        by_cases c3 : i ≤ e
        · rw [if_pos c3, g2 _ (by omega) (by omega), q, iI_add]
        · rw [if_neg c3, g3 _ (by omega), q]
  · rw [← hs]
    unfold wrG
    by_cases c1 : i < s
    · rw [if_pos c1, upd_ne (by omega), (k3 i.toNat (by omega)).2, g4]
      exact T.2.2.2 i h1 (by omega)
    · rw [if_neg c1]
      by_cases c2 : i = s
      · rw [if_pos c2, c2, upd_in rfl]
      · rw [if_neg c2, upd_ne (by omega), (k2 i.toNat (by omega) (by omega)).2, show ((i.toNat : Int) - 1).toNat = (i - 1).toNat by omega, g4]
        exact T.2.2.2 (i - 1) (by omega) (by omega)
/-- the landed code's removal -/
theorem dissolveOf (T : TR N F G (iI N) d lb) (v : Int) (hv : 0 < v) (hv2 : v < N) : ∃ d' lb' : Nat → Int32, mX3_dissolve (iI N) d lb (iI v) = some (iI (N - 1), d', lb') ∧ (∀ i, 0 ≤ i → i < N - 1 → d' i.toNat = iI (reF F v (En F N v) i)) ∧ (∀ i, 0 ≤ i → i < N - 1 → lb' i.toNat = iI (cuF G v 1 i)) := by
  have n := T.1.nn
  have en := T.1.en v (by omega) hv2
  obtain ⟨d1, l1, g1, g2, g3, g4⟩ := sinkOf N (v + 1) (En F N v) (-1) d lb (by omega) (by omega) (by omega) (by omega)
  obtain ⟨d2, l2, k1, k2, k3⟩ := closeGapOf N v 1 d1 l1 (by omega) (by omega) (by omega) (by omega)
  refine ⟨d2, l2, ?_, fun i h1 h2 => ?_, fun i h1 h2 => ?_⟩
  · unfold mX3_dissolve
    rw [endOf T v (by omega) hv2]
    simp only [Option.bind_some]
    rw [iI_add, g1]
    simp only [Option.bind_some]
    rw [k1]
    rfl
  · unfold reF
    by_cases c1 : i < v
    · rw [if_pos c1, (k3 i.toNat (by omega)).1, g3 i.toNat (by omega)]
      exact T.2.2.1 i h1 (by omega)
    · have q := T.2.2.1 (i + 1) (by omega) (by omega)
      rw [if_neg c1, (k2 i.toNat (by omega) (by omega)).1, show ((i.toNat : Int) + 1).toNat = (i + 1).toNat by omega]
      by_cases c2 : i + 1 < En F N v
      · rw [if_pos c2, g2 _ (by omega) (by omega), q, iI_add, Int.sub_eq_add_neg]
      · rw [if_neg c2, g3 _ (by omega), q]
  · unfold cuF
    by_cases c1 : i < v
    · rw [if_pos c1, (k3 i.toNat (by omega)).2, g4]
      exact T.2.2.2 i h1 (by omega)
    · rw [if_neg c1, (k2 i.toNat (by omega) (by omega)).2, show ((i.toNat : Int) + 1).toNat = (i + 1).toNat by omega, g4]
      exact T.2.2.2 (i + 1) (by omega) (by omega)
theorem cutRows (T : TR N F G (iI N) d lb) (v m : Int) (d2 l2 : Nat → Int32) (hv : 0 < v) (hv2 : v < N) (hm : m = En F N v - v) (k2 : ∀ j : Nat, v ≤ j → (j : Int) < N - m → d2 j = d (j + m).toNat ∧ l2 j = lb (j + m).toNat) (k3 : ∀ j : Nat, (j : Int) < v → d2 j = d j ∧ l2 j = lb j) : TR (N - m) (cuF F v m) (cuF G v m) (iI (N - m)) d2 l2 := by
  have n := T.1.nn
  have en := T.1.en v (by omega) hv2
  refine ⟨T.1.cut v m hv hv2 hm, rfl, fun i h1 h2 => ?_, fun i h1 h2 => ?_⟩
  · unfold cuF
    by_cases c1 : i < v
    · rw [if_pos c1, (k3 i.toNat (by omega)).1]
      exact T.2.2.1 i h1 (by omega)
    · rw [if_neg c1, (k2 i.toNat (by omega) (by omega)).1, show ((i.toNat : Int) + m).toNat = (i + m).toNat by omega]
      exact T.2.2.1 (i + m) (by omega) (by omega)
  · unfold cuF
    by_cases c1 : i < v
    · rw [if_pos c1, (k3 i.toNat (by omega)).2]
      exact T.2.2.2 i h1 (by omega)
    · rw [if_neg c1, (k2 i.toNat (by omega) (by omega)).2, show ((i.toNat : Int) + m).toNat = (i + m).toNat by omega]
      exact T.2.2.2 (i + m) (by omega) (by omega)
end ESTEP
/-! 24: moving a subtree -/
section MOVE
variable {N : Int} {F G : Int → Int} {d lb : Nat → Int32}
/-- what comes in: v's subtree, below t -/
def mvR (F F1 : Int → Int) (v t i : Int) : Int := F (v + i) - F v + F1 t + 1
theorem TV.mv (T : TV N F G) (v w k m t s : Int) (hv : 0 < v) (hv2 : v < N) (hw : 0 ≤ w) (hw2 : w < N) (hnot : ¬ (v ≤ w ∧ w < En F N v)) (hm : m = En F N v - v) (ht : t = if w < v then w else w - m) (hs : s = Sp (cuF F v m) (N - m) t k) : 1 ≤ m ∧ 0 ≤ t ∧ t < N - m ∧ t < s ∧ s ≤ N - m ∧ TV N (inF (cuF F v m) (mvR F (cuF F v m) v t) s m) (inF (cuF G v m) (fun i => G (v + i)) s m) := by
  have en := T.en v (by omega) hv2
  have T1 := T.cut v m hv hv2 hm
  have t0 : 0 ≤ t ∧ t < N - m := by rw [ht]; split <;> omega
  have sp := T1.sp t k t0.1 t0.2
  rw [← hs] at sp
  have n := T.nn
  refine ⟨by omega, t0.1, t0.2, sp.1, sp.2.2.1, ?_⟩
  have r := T1.ins t s m (mvR F (cuF F v m) v t) (fun i => G (v + i)) t0.1 t0.2 sp.1 sp.2.1 sp.2.2.2 (by omega) (by omega) (by unfold mvR; rw [Int.add_zero]; omega) (fun i h1 h2 => by
    have a := en.2.2.1 (v + i) (by omega) (by omega)
    have b := (T.2.2.2.1 (v + i) (by omega) (by omega)).2
    unfold mvR
    rw [show v + (i - 1) = v + i - 1 by omega]
    omega) (fun i h1 h2 => T.lab (v + i) (by omega) (by omega))
  rw [show N - m + m = N by omega] at r
  exact r
theorem transplantOf (T : TR N F G (iI N) d lb) (xd xl : Nat → Int32) (v w k m t s : Int) (hv : 0 < v) (hv2 : v < N) (hw : 0 ≤ w) (hw2 : w < N) (hnot : ¬ (v ≤ w ∧ w < En F N v)) (hk : -2147483648 ≤ k) (hk2 : k < 2147483648) (hm : m = En F N v - v) (ht : t = if w < v then w else w - m) (hs : s = Sp (cuF F v m) (N - m) t k) : ∃ d' lb' xd' xl' : Nat → Int32, mX3_transplant (iI N) d lb xd xl (iI v) (iI w) (iI k) = some (iI s, iI N, d', lb', xd', xl') ∧ (∀ i, 0 ≤ i → i < N → d' i.toNat = iI (inF (cuF F v m) (mvR F (cuF F v m) v t) s m i)) ∧ (∀ i, 0 ≤ i → i < N → lb' i.toNat = iI (inF (cuF G v m) (fun i => G (v + i)) s m i)) := by
  have n := T.1.nn
  have en := T.1.en v (by omega) hv2
  obtain ⟨m1, t1, t2, s1, s2, tv⟩ := T.1.mv v w k m t s hv hv2 hw hw2 hnot hm ht hs
  obtain ⟨xd', xl', h1, h2⟩ := holdOf N v m d lb xd xl (by omega) (by omega) m1 (by omega)
  obtain ⟨d1, l1, g1, g2, g3⟩ := closeGapOf N v m d lb (by omega) m1 (by omega) (by omega)
  have T1 := cutRows T v m d1 l1 hv hv2 hm g2 g3
  obtain ⟨d2, l2, k1, k2, k3⟩ := openGapOf (N - m) s m d1 l1 (by omega) (by omega) (by omega) m1 (by omega)
  rw [show N - m + m = N by omega] at k1 k2
  have dt : d2 t.toNat = iI (cuF F v m t) := by
    rw [(k3 t.toNat (by omega)).1]
    exact T1.2.2.1 t t1 t2
  obtain ⟨d3, l3, r1, r2, r3⟩ := releaseOf s m (iI (cuF F v m t + 1)) d2 l2 xd' xl' (by omega) (by omega) (by omega)
  have fin : ((mX3_startOfPlace (iI (N - m)) d1 (iI t) (iI k)).bind fun r5 => ((mX3_openGap (iI (N - m)) d1 l1 r5 (iI m)).bind fun r6 => ((mX3_release r6.2.1 r6.2.2 xd' xl' r5 (iI m) ((mX3_depthOf r6.1 r6.2.1 (iI t)) + (iI 1))).bind fun r7 => some (r5, r6.1, r7.1, r7.2, xd', xl')))) = some (iI s, iI N, d3, l3, xd', xl') := by
    rw [startOfPlaceOf T1 t k t1 t2 hk hk2, ← hs]
    simp only [Option.bind_some]
    rw [k1]
    simp only [Option.bind_some]
    rw [dRaw N t d2 (by omega) t1 (by omega), dt, iI_add, r1]
    rfl
  refine ⟨d3, l3, xd', xl', ?_, fun i q1 q2 => ?_, fun i q1 q2 => ?_⟩
  · unfold mX3_transplant
    rw [sizeOf' T v (by omega) hv2, ← hm]
    simp only [Option.bind_some]
    rw [h1]
    simp only [Option.bind_some]
    rw [g1]
    simp only [Option.bind_some]
    by_cases c : w < v
    · rw [if_pos c] at ht
      rw [if_neg (show ¬ iI v ≤ iI w by rw [iI_le (by omega) (by omega) (by omega) (by omega)]; omega), ← ht]
      exact fin
    · rw [if_neg c] at ht
      rw [if_pos (show iI v ≤ iI w by rw [iI_le (by omega) (by omega) (by omega) (by omega)]; omega), iI_sub, ← ht]
      exact fin
  · unfold inF
    by_cases c1 : i < s
    · rw [if_pos c1, (r3 i.toNat (by omega)).1, (k3 i.toNat (by omega)).1]
      exact T1.2.2.1 i q1 (by omega)
    · rw [if_neg c1]
      by_cases c2 : i < s + m
      · have a := (r2 (i - s) (by omega) (by omega)).1
        have b := (h2 (i - s) (by omega) (by omega)).1
        rw [show s + (i - s) = i by omega] at a
        rw [if_pos c2, a, b, T.2.2.1 (v + (i - s)) (by omega) (by omega), T.2.2.1 v (by omega) hv2, iI_sub, iI_add]
        unfold mvR
        congr 1
        omega
      · rw [if_neg c2, (r3 i.toNat (by omega)).1, (k2 i.toNat (by omega) (by omega)).1, show ((i.toNat : Int) - m).toNat = (i - m).toNat by omega]
        exact T1.2.2.1 (i - m) (by omega) (by omega)
  · unfold inF
    by_cases c1 : i < s
    · rw [if_pos c1, (r3 i.toNat (by omega)).2, (k3 i.toNat (by omega)).2]
      exact T1.2.2.2 i q1 (by omega)
    · rw [if_neg c1]
      by_cases c2 : i < s + m
      · have a := (r2 (i - s) (by omega) (by omega)).2
        have b := (h2 (i - s) (by omega) (by omega)).2
        rw [show s + (i - s) = i by omega] at a
        rw [if_pos c2, a, b]
        exact T.2.2.2 (v + (i - s)) (by omega) (by omega)
      · rw [if_neg c2, (r3 i.toNat (by omega)).2, (k2 i.toNat (by omega) (by omega)).2, show ((i.toNat : Int) - m).toNat = (i - m).toNat by omega]
        exact T1.2.2.2 (i - m) (by omega) (by omega)
end MOVE
/-! 25: reading the typed text -/
abbrev ltr (c : Int) : Prop := 97 ≤ c ∧ c ≤ 122
def nmA (E : Int → Int) : Nat → Int
  | 0 => 0
  | i + 1 => nmA E i + (if ltr (E i) then 1 else 0)
def dpA (E : Int → Int) : Nat → Int
  | 0 => 0
  | i + 1 => dpA E i + (if E i = 40 then 1 else if E i = 41 then -1 else 0)
def FA (E : Int → Int) : Nat → Int → Int
  | 0, _ => 0
  | i + 1, y => if ltr (E i) ∧ y = nmA E i then dpA E i else FA E i y
def GA (E : Int → Int) : Nat → Int → Int
  | 0, _ => 0
  | i + 1, y => if ltr (E i) ∧ y = nmA E i then E i else GA E i y
def lsA (E : Int → Int) : Nat → Int
  | 0 => 0
  | i + 1 => if ltr (E i) then 1 else if E i = 40 then 2 else 3
def alA (E : Int → Int) (i : Nat) : Prop := (E i = 40 ∧ lsA E i = 1) ∨ (E i = 41 ∧ 0 < dpA E i ∧ lsA E i ≠ 2) ∨ (ltr (E i) ∧ (i = 0 ∨ 0 < dpA E i) ∧ nmA E i < 100)
theorem FA_yes {E : Int → Int} {i : Nat} (l : ltr (E i)) (y : Int) : FA E (i + 1) y = if y = nmA E i then dpA E i else FA E i y := by
  rw [FA]
  by_cases q : y = nmA E i
  · rw [if_pos ⟨l, q⟩, if_pos q]
  · rw [if_neg (fun z => q z.2), if_neg q]
theorem GA_yes {E : Int → Int} {i : Nat} (l : ltr (E i)) (y : Int) : GA E (i + 1) y = if y = nmA E i then E i else GA E i y := by
  rw [GA]
  by_cases q : y = nmA E i
  · rw [if_pos ⟨l, q⟩, if_pos q]
  · rw [if_neg (fun z => q z.2), if_neg q]
theorem FA_no {E : Int → Int} {i : Nat} (l : ¬ ltr (E i)) (y : Int) : FA E (i + 1) y = FA E i y := by
  rw [FA, if_neg (fun q => l q.1)]
theorem GA_no {E : Int → Int} {i : Nat} (l : ¬ ltr (E i)) (y : Int) : GA E (i + 1) y = GA E i y := by
  rw [GA, if_neg (fun q => l q.1)]
section READ
variable {E : Int → Int}
theorem lsA_bd (i : Nat) : 0 ≤ lsA E i ∧ lsA E i ≤ 3 ∧ (lsA E i = 0 ↔ i = 0) := by
  cases i with
  | zero => simp [lsA]
  | succ k =>
    rw [lsA]
    refine ⟨by split <;> (try split) <;> omega, by split <;> (try split) <;> omega, ?_⟩
    constructor
    · intro h; exfalso; revert h; split <;> (try split) <;> omega
    · intro h; exact absurd h (by omega)
/-- what holds as long as all signs were allowed -/
def PI (E : Int → Int) (i : Nat) : Prop := 0 ≤ dpA E i ∧ dpA E i ≤ i ∧ 0 ≤ nmA E i ∧ nmA E i ≤ 100 ∧ (0 < i → 1 ≤ nmA E i ∧ dpA E i ≤ FA E i (nmA E i - 1) + 1) ∧ (lsA E i = 1 → dpA E i = FA E i (nmA E i - 1)) ∧ (lsA E i = 2 → 1 ≤ dpA E i) ∧ (0 < nmA E i → FA E i 0 = 0) ∧ (∀ j, 0 < j → j < nmA E i → 1 ≤ FA E i j ∧ FA E i j ≤ FA E i (j - 1) + 1) ∧ (∀ j, 0 ≤ j → j < nmA E i → ltr (GA E i j)) ∧ (∀ j, j < 0 ∨ nmA E i ≤ j → FA E i j = 0)
theorem PI_all : ∀ (i : Nat), (∀ j, j < i → alA E j) → PI E i
  | 0, _ => by
    refine ⟨Int.le_refl _, Int.le_refl _, Int.le_refl _, by simp [nmA], fun h => absurd h (by omega), fun h => absurd h (by simp [lsA]), fun h => absurd h (by simp [lsA]), fun h => absurd h (by simp [nmA]), fun j h1 h2 => absurd h2 (by simp [nmA]; omega), fun j h1 h2 => absurd h2 (by simp [nmA]; omega), fun j h => rfl⟩
  | i + 1, h => by
    obtain ⟨p1, p2, p3, p4, p5, p6, p7, p8, p9, p10, p11⟩ := PI_all i (fun j hj => h j (by omega))
    have a := h i (by omega)
    have ls := lsA_bd (E := E) i
    unfold PI
    rw [nmA, dpA, lsA]
    rcases a with ⟨c, a2⟩ | ⟨c, a2, a3⟩ | ⟨c, a2, a3⟩
    · have nl : ¬ ltr (E i) := by omega
      have fe := FA_no nl
      have ge := GA_no nl
      have i0 : i ≠ 0 := fun q => by have := ls.2.2.mpr q; omega
      rw [if_neg nl, if_pos c, if_neg nl, if_pos c, Int.add_zero]
      have q6 := p6 a2
      have q5 := p5 (by omega)
      refine ⟨by omega, by omega, p3, p4, fun _ => ⟨q5.1, by rw [fe]; omega⟩, fun q => absurd q (by omega), fun _ => by omega, fun q => by rw [fe]; exact p8 q, fun j h1 h2 => by rw [fe, fe]; exact p9 j h1 h2, fun j h1 h2 => by rw [ge]; exact p10 j h1 h2, fun j hj => by rw [fe]; exact p11 j hj⟩
    · have nl : ¬ ltr (E i) := by omega
      have n4 : ¬ E i = 40 := by omega
      have fe := FA_no nl
      have ge := GA_no nl
      have i0 : i ≠ 0 := fun q => by subst q; simp [dpA] at a2
      rw [if_neg nl, if_neg n4, if_pos c, if_neg nl, if_neg n4, Int.add_zero]
      have q5 := p5 (by omega)
      refine ⟨by omega, by omega, p3, p4, fun _ => ⟨q5.1, by rw [fe]; omega⟩, fun q => absurd q (by omega), fun q => absurd q (by omega), fun q => by rw [fe]; exact p8 q, fun j h1 h2 => by rw [fe, fe]; exact p9 j h1 h2, fun j h1 h2 => by rw [ge]; exact p10 j h1 h2, fun j hj => by rw [fe]; exact p11 j hj⟩
    · have n4 : ¬ E i = 40 := by omega
      have n5 : ¬ E i = 41 := by omega
      have fe := FA_yes c
      have ge := GA_yes c
      rw [if_pos c, if_neg n4, if_neg n5, if_pos c, Int.add_zero]
      have last : FA E (i + 1) (nmA E i + 1 - 1) = dpA E i := by rw [fe, if_pos (by omega)]
      refine ⟨p1, by omega, by omega, by omega, fun _ => ⟨by omega, by rw [last]; omega⟩, fun _ => last.symm, fun q => absurd q (by omega), fun _ => ?_, fun j h1 h2 => ?_, fun j h1 h2 => ?_, fun j hj => ?_⟩
      · rw [fe]
        by_cases q : 0 = nmA E i
        · rw [if_pos q]
          by_cases z : i = 0
          · subst z; rfl
          · have := p5 (by omega); omega
        · rw [if_neg q]; exact p8 (by omega)
      · rw [fe, fe]
        by_cases q : j = nmA E i
        · have i0 : i ≠ 0 := fun z => by subst z; simp [nmA] at q; omega
          have q5 := p5 (by omega)
          rw [if_pos q, if_neg (by omega), q]
          omega
        · rw [if_neg q, if_neg (by omega)]
          exact p9 j h1 (by omega)
      · rw [ge]
        by_cases q : j = nmA E i
        · rw [if_pos q]; exact c
        · rw [if_neg q]; exact p10 j h1 (by omega)
      · rw [fe, if_neg (by omega)]
        exact p11 j (by omega)
theorem PI_tv (i : Nat) (h : PI E i) (h0 : 0 < i) : TV (nmA E i) (FA E i) (GA E i) := by
  obtain ⟨p1, p2, p3, p4, p5, p6, p7, p8, p9, p10, p11⟩ := h
  have := p5 h0
  exact ⟨this.1, p4, p8 (by omega), p9, p11, p10⟩
/-! the reference's step -/
/-! the landed code's step -/
theorem deeperOf (ch : Nat → Int32) (i c : Int) (hc : ch i.toNat = iI c) (hi : 0 ≤ i) (hi2 : i < 300) (hc0 : 0 ≤ c) (hc2 : c < 65536) : mX2_deeper ch (iI i) = iI (if c = 40 then 1 else if c = 41 then -1 else 0) := by
  unfold mX2_deeper
  rw [getOf 300 ch i (by omega) hi (by omega), hc]
  by_cases q : c = 40
  · rw [if_pos (by rw [q]), if_pos q]
  · rw [if_neg (by rw [iI_eq (by omega) (by omega) (by omega) (by omega)]; exact q), if_neg q]
    by_cases w : c = 41
    · rw [if_pos (by rw [w]), if_pos w]
    · rw [if_neg (by rw [iI_eq (by omega) (by omega) (by omega) (by omega)]; exact w), if_neg w]
theorem allowedOf (ch : Nat → Int32) (t : Int) (ht : t ≤ 300) (hE : ∀ i, 0 ≤ i → i < t → ch i.toNat = iI (E i) ∧ 0 ≤ E i ∧ E i < 65536) (i : Nat) (hi : (i : Int) < t) (p : PI E i) : ∃ b : Int, mX2_isAllowed ch (iI i) (iI (dpA E i)) (iI (nmA E i)) = some (iI b) ∧ ((b = 1 ∧ alA E i) ∨ (b = 0 ∧ ¬ alA E i)) := by
  obtain ⟨p1, p2, p3, p4, -⟩ := p
  have ec := hE i (by omega) hi
  have gc : mX4_get 300 ch (iI i) = iI (E i) := by rw [getOf 300 ch i (by omega) (by omega) (by omega)]; exact ec.1
  have dp0 : (iI (dpA E i) ≤ 0) = (dpA E i ≤ 0) := by rw [iI_zero, iI_le (by omega) (by omega) (by omega) (by omega)]
  have nm0 : (iI 100 ≤ iI (nmA E i)) = (100 ≤ nmA E i) := iI_le (by omega) (by omega) (by omega) (by omega)
  have k40 : (iI (E i) = iI 40) = (E i = 40) := iI_eq (by omega) (by omega) (by omega) (by omega)
  have k41 : (iI (E i) = iI 41) = (E i = 41) := iI_eq (by omega) (by omega) (by omega) (by omega)
  have let_ := letterOf (E i) (by omega) (by omega)
  unfold mX2_isAllowed
  rw [gc]
  cases i with
  | zero =>
    have l0 : lsA E 0 = 0 := rfl
    have d0 : dpA E 0 = 0 := rfl
    have n0 : nmA E 0 = 0 := rfl
    rw [if_pos (show iI ((0 : Nat) : Int) ≤ 0 by decide)]
    by_cases q : E (0 : Nat) = 40
    · rw [if_pos (by rw [k40]; exact q), if_pos (by decide)]
      refine ⟨0, rfl, Or.inr ⟨rfl, ?_⟩⟩
      unfold alA
      rw [l0, d0, n0]
      omega
    · rw [if_neg (by rw [k40]; exact q)]
      by_cases w : E (0 : Nat) = 41
      · rw [if_pos (by rw [k41]; exact w), if_pos (by rw [dp0, d0]; omega)]
        refine ⟨0, rfl, Or.inr ⟨rfl, ?_⟩⟩
        unfold alA
        rw [l0, d0, n0]
        omega
      · rw [if_neg (by rw [k41]; exact w), let_]
        by_cases l : ltr (E (0 : Nat))
        · rw [if_pos l, if_neg e10, if_pos (show iI ((0 : Nat) : Int) = 0 by decide), if_neg (by rw [nm0, n0]; omega)]
          refine ⟨1, rfl, Or.inl ⟨rfl, ?_⟩⟩
          unfold alA
          rw [n0]
          exact Or.inr (Or.inr ⟨l, Or.inl rfl, by omega⟩)
        · rw [if_neg l, if_pos e00]
          refine ⟨0, rfl, Or.inr ⟨rfl, ?_⟩⟩
          unfold alA
          omega
  | succ k =>
    have eb := hE k (by omega) (by omega)
    have gb : mX4_get 300 ch (iI ((k + 1 : Nat) : Int) - iI 1) = iI (E k) := by
      rw [iI_sub, show ((k + 1 : Nat) : Int) - 1 = (k : Int) by omega, getOf 300 ch k (by omega) (by omega) (by omega)]
      exact eb.1
    have letb := letterOf (E k) (by omega) (by omega)
    have b40 : (iI (E k) = iI 40) = (E k = 40) := iI_eq (by omega) (by omega) (by omega) (by omega)
    have ls : lsA E (k + 1) = if ltr (E k) then 1 else if E k = 40 then 2 else 3 := rfl
    rw [if_neg (show ¬ iI ((k + 1 : Nat) : Int) ≤ 0 by rw [iI_zero, iI_le (by omega) (by omega) (by omega) (by omega)]; omega), gb]
    by_cases q : E ((k + 1 : Nat) : Int) = 40
    · rw [if_pos (by rw [k40]; exact q), letb]
      by_cases l : ltr (E k)
      · rw [if_pos l] at ls ⊢
        rw [if_pos (Or.inr rfl)]
        exact ⟨1, rfl, Or.inl ⟨rfl, Or.inl ⟨q, ls⟩⟩⟩
      · rw [if_neg l] at ls ⊢
        rw [if_pos (Or.inl rfl)]
        refine ⟨0, rfl, Or.inr ⟨rfl, ?_⟩⟩
        have : lsA E (k + 1) ≠ 1 := by rw [ls]; split <;> omega
        unfold alA
        omega
    · rw [if_neg (by rw [k40]; exact q)]
      by_cases w : E ((k + 1 : Nat) : Int) = 41
      · rw [if_pos (by rw [k41]; exact w)]
        by_cases z : dpA E (k + 1) ≤ 0
        · rw [if_pos (by rw [dp0]; exact z)]
          refine ⟨0, rfl, Or.inr ⟨rfl, ?_⟩⟩
          unfold alA
          omega
        · rw [if_neg (by rw [dp0]; exact z)]
          by_cases y : E k = 40
          · rw [if_pos (by rw [b40]; exact y)]
            refine ⟨0, rfl, Or.inr ⟨rfl, ?_⟩⟩
            have : lsA E (k + 1) = 2 := by rw [ls, if_neg (by omega), if_pos y]
            unfold alA
            omega
          · rw [if_neg (by rw [b40]; exact y)]
            refine ⟨1, rfl, Or.inl ⟨rfl, Or.inr (Or.inl ⟨w, by omega, ?_⟩)⟩⟩
            rw [ls]
            split <;> (try split) <;> omega
      · rw [if_neg (by rw [k41]; exact w), let_]
        by_cases l : ltr (E ((k + 1 : Nat) : Int))
        · rw [if_pos l, if_neg e10, if_neg (show ¬ iI ((k + 1 : Nat) : Int) = 0 by rw [iI_eq0 (by omega) (by omega)]; omega)]
          by_cases z : dpA E (k + 1) ≤ 0
          · rw [if_pos (by rw [dp0]; exact z)]
            refine ⟨0, rfl, Or.inr ⟨rfl, ?_⟩⟩
            unfold alA
            omega
          · rw [if_neg (by rw [dp0]; exact z)]
            by_cases y : 100 ≤ nmA E (k + 1)
            · rw [if_pos (by rw [nm0]; exact y)]
              refine ⟨0, rfl, Or.inr ⟨rfl, ?_⟩⟩
              unfold alA
              omega
            · rw [if_neg (by rw [nm0]; exact y)]
              exact ⟨1, rfl, Or.inl ⟨rfl, Or.inr (Or.inr ⟨l, by omega, by omega⟩)⟩⟩
        · rw [if_neg l, if_pos e00]
          refine ⟨0, rfl, Or.inr ⟨rfl, ?_⟩⟩
          unfold alA
          omega
theorem makeTree_8 (ch : Nat → Int32) (t : Nat) (ht : t ≤ 300) (hE : ∀ i, 0 ≤ i → i < (t : Int) → ch i.toNat = iI (E i) ∧ 0 ≤ E i ∧ E i < 65536) (hal : ∀ j, j < t → alA E j) : ∀ (k f i : Nat) (d lb : Nat → Int32), k < f → i + k = t → (∀ y, 0 ≤ y → y < nmA E i → d y.toNat = iI (FA E i y) ∧ lb y.toNat = iI (GA E i y)) → ∃ d' lb' : Nat → Int32, mX2_makeTree_8 f (iI (nmA E i)) d lb (iI t) ch (iI (dpA E i)) (iI i) = some (iI (nmA E t), d', lb') ∧ (∀ y, 0 ≤ y → y < nmA E t → d' y.toNat = iI (FA E t y) ∧ lb' y.toNat = iI (GA E t y)) := by
  intro k
  induction k with
  | zero =>
    intro f i d lb hf hi hr
    obtain ⟨f, rfl⟩ : ∃ g, f = g + 1 := ⟨f - 1, by omega⟩
    have et : i = t := by omega
    subst et
    refine ⟨d, lb, ?_, hr⟩
    rw [mX2_makeTree_8, if_pos (by rw [iI_le (by omega) (by omega) (by omega) (by omega)]; omega)]
  | succ k ih =>
    intro f i d lb hf hi hr
    obtain ⟨f, rfl⟩ : ∃ g, f = g + 1 := ⟨f - 1, by omega⟩
    obtain ⟨p1, p2, p3, p4, -⟩ := PI_all i (fun j hj => hal j (by omega))
    have ec := hE i (by omega) (by omega)
    have al := hal i (by omega)
    have dn : dpA E (i + 1) = dpA E i + (if E i = 40 then 1 else if E i = 41 then -1 else 0) := rfl
    have nn : nmA E (i + 1) = nmA E i + (if ltr (E i) then 1 else 0) := rfl
    rw [mX2_makeTree_8, if_neg (by rw [iI_le (by omega) (by omega) (by omega) (by omega)]; omega), getOf 300 ch i (by omega) (by omega) (by omega), ec.1, letterOf (E i) (by omega) (by omega), deeperOf ch i (E i) ec.1 (by omega) (by omega) ec.2.1 ec.2.2]
    simp only [iI_add]
    rw [← dn]
    by_cases l : ltr (E i)
    · have n1 : nmA E i < 100 := by
        rcases al with ⟨a1, -⟩ | ⟨a1, -⟩ | ⟨-, -, a3⟩
        · omega
        · omega
        · exact a3
      rw [if_pos l] at nn
      rw [if_pos l, if_neg e10, appendOf (nmA E i) _ _ p3 n1, ← nn]
      exact ih f (i + 1) _ _ (by omega) (by omega) (fun y y1 y2 => by
        have fe := FA_yes l y
        have ge := GA_yes l y
        rw [fe, ge]
        dsimp only
        by_cases q : y = nmA E i
        · rw [if_pos q, if_pos q, upd_in (by rw [q]), upd_in (by rw [q])]
          exact ⟨rfl, rfl⟩
        · rw [if_neg q, if_neg q, upd_ne (by omega), upd_ne (by omega)]
          exact hr y y1 (by omega))
    · rw [if_neg l, Int.add_zero] at nn
      rw [if_neg l, if_pos e00, ← nn]
      exact ih f (i + 1) d lb (by omega) (by omega) (fun y y1 y2 => by
        have fe := FA_no l y
        have ge := GA_no l y
        rw [fe, ge]
        exact hr y y1 (by omega))
end READ
