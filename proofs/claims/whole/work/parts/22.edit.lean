/-! 22: edits: what they do to rows, and to a tree -/
section EDIT
variable {N : Int} {F G : Int → Int}
theorem dRaw (N z : Int) (d : Nat → Int32) (hN : N ≤ 100) (h1 : 0 ≤ z) (h2 : z < N) : mX3_depthOf (iI N) d (iI z) = d z.toNat := by
  unfold mX3_depthOf mX3_has
  rw [if_neg (show ¬ iI z < 0 by rw [iI_zero, iI_lt (by omega) (by omega) (by omega) (by omega)]; omega), if_neg (show ¬ iI N ≤ iI z by rw [iI_le (by omega) (by omega) (by omega) (by omega)]; omega), if_neg e10]
  exact getOf 100 d z (by omega) h1 (by omega)
theorem lRaw (z : Int) (lb : Nat → Int32) (h1 : 0 ≤ z) (h2 : z < 100) : mX3_labelOf lb (iI z) = lb z.toNat := getOf 100 lb z (by omega) h1 h2
theorem nodePut (d lb : Nat → Int32) (z : Int) (x y : Int32) (h1 : 0 ≤ z) (h2 : z < 100) : mX3_putNode d lb (iI z) x y = (upd d z.toNat x, upd lb z.toNat y) := by
  unfold mX3_putNode
  rw [putOf 100 _ _ _ (by omega) h1 h2, putOf 100 _ _ _ (by omega) h1 h2]
theorem openGap_7 (N st m : Int) (hN : 0 ≤ N) (hs : 0 ≤ st) (hm : 1 ≤ m) (hNm : N + m ≤ 100) : ∀ (k f : Nat) (x : Int) (d lb : Nat → Int32), k < f → x + 1 = st + k → x < N → ∃ d' lb' : Nat → Int32, mX3_openGap_7 f (iI N) d lb (iI st) (iI m) (iI x) = some (iI (N + m), d', lb') ∧ (∀ j : Nat, st + m ≤ j → (j : Int) ≤ x + m → d' j = d (j - m).toNat ∧ lb' j = lb (j - m).toNat) ∧ (∀ j : Nat, (j : Int) < st + m ∨ x + m < j → d' j = d j ∧ lb' j = lb j) := by
  intro k
  induction k with
  | zero =>
    intro f x d lb hf hx hx2
    obtain ⟨f, rfl⟩ : ∃ g, f = g + 1 := ⟨f - 1, by omega⟩
    refine ⟨d, lb, ?_, fun j h1 h2 => absurd h2 (by omega), fun j _ => ⟨rfl, rfl⟩⟩
    rw [mX3_openGap_7, if_pos (by rw [iI_lt (by omega) (by omega) (by omega) (by omega)]; omega)]
    simp only [iMin]
    simp (disch := omega) only [iI_zero, iI_len, iI_le, iI_lt, iI_eq, iI_add, iI_sub, iI_mul, Option.bind_some, iI_ite]
    rw [if_neg (by omega)]
  | succ k ih =>
    intro f x d lb hf hx hx2
    obtain ⟨f, rfl⟩ : ∃ g, f = g + 1 := ⟨f - 1, by omega⟩
    obtain ⟨d', lb', h1, h2, h3⟩ := ih f (x - 1) (upd d (x + m).toNat (d x.toNat)) (upd lb (x + m).toNat (lb x.toNat)) (by omega) (by omega) (by omega)
    refine ⟨d', lb', ?_, fun j g1 g2 => ?_, fun j hj => ?_⟩
    · rw [mX3_openGap_7, dRaw N x d (by omega) (by omega) hx2, lRaw x lb (by omega) (by omega), iI_add x m, nodePut _ _ _ _ _ (by omega) (by omega), if_neg (by rw [iI_lt (by omega) (by omega) (by omega) (by omega)]; omega), iI_add]
      exact h1
    · by_cases q : (j : Int) = x + m
      · have := h3 j (Or.inr (by omega))
        rw [this.1, this.2, upd_in (by omega), upd_in (by omega), show (j - m).toNat = x.toNat by omega]
        exact ⟨rfl, rfl⟩
      · have := h2 j g1 (by omega)
        rw [this.1, this.2, upd_ne (by omega), upd_ne (by omega)]
        exact ⟨rfl, rfl⟩
    · have := h3 j (by omega)
      rw [this.1, this.2, upd_ne (by omega), upd_ne (by omega)]
      exact ⟨rfl, rfl⟩
theorem openGapOf (N st m : Int) (d lb : Nat → Int32) (hN : 0 ≤ N) (hs : 0 ≤ st) (hs2 : st ≤ N) (hm : 1 ≤ m) (hNm : N + m ≤ 100) : ∃ d' lb' : Nat → Int32, mX3_openGap (iI N) d lb (iI st) (iI m) = some (iI (N + m), d', lb') ∧ (∀ j : Nat, st + m ≤ j → (j : Int) < N + m → d' j = d (j - m).toNat ∧ lb' j = lb (j - m).toNat) ∧ (∀ j : Nat, (j : Int) < st + m → d' j = d j ∧ lb' j = lb j) := by
  obtain ⟨d', lb', h1, h2, h3⟩ := openGap_7 N st m hN hs hm hNm (N - st).toNat FU (N - 1) d lb (by rw [FU_big]; omega) (by omega) (by omega)
  refine ⟨d', lb', ?_, fun j g1 g2 => h2 j g1 (by omega), fun j hj => h3 j (Or.inl hj)⟩
  unfold mX3_openGap
  rw [iI_sub]
  exact h1
theorem closeGap_4 (N st m : Int) (a : Int32) (hs : 0 ≤ st) (hm : 1 ≤ m) (hsm : st + m ≤ N) (hN : N ≤ 100) : ∀ (k f : Nat) (x : Int) (d lb : Nat → Int32), k < f → x + k = N → st + m ≤ x → ∃ d' lb' : Nat → Int32, mX3_closeGap_4 f (iI N) d lb a (iI m) (iI x) = some (iI (N - m), d', lb') ∧ (∀ j : Nat, x - m ≤ j → (j : Int) < N - m → d' j = d (j + m).toNat ∧ lb' j = lb (j + m).toNat) ∧ (∀ j : Nat, (j : Int) < x - m → d' j = d j ∧ lb' j = lb j) := by
  intro k
  induction k with
  | zero =>
    intro f x d lb hf hx hx2
    obtain ⟨f, rfl⟩ : ∃ g, f = g + 1 := ⟨f - 1, by omega⟩
    refine ⟨d, lb, ?_, fun j h1 h2 => absurd h2 (by omega), fun j _ => ⟨rfl, rfl⟩⟩
    rw [mX3_closeGap_4, if_pos (by rw [iI_le (by omega) (by omega) (by omega) (by omega)]; omega)]
    simp only [iMax]
    simp (disch := omega) only [iI_zero, iI_len, iI_le, iI_lt, iI_eq, iI_add, iI_sub, iI_mul, Option.bind_some, iI_ite]
    rw [if_neg (by omega)]
  | succ k ih =>
    intro f x d lb hf hx hx2
    obtain ⟨f, rfl⟩ : ∃ g, f = g + 1 := ⟨f - 1, by omega⟩
    obtain ⟨d', lb', h1, h2, h3⟩ := ih f (x + 1) (upd d (x - m).toNat (d x.toNat)) (upd lb (x - m).toNat (lb x.toNat)) (by omega) (by omega) (by omega)
    refine ⟨d', lb', ?_, fun j g1 g2 => ?_, fun j hj => ?_⟩
    · rw [mX3_closeGap_4, dRaw N x d (by omega) (by omega) (by omega), lRaw x lb (by omega) (by omega), iI_sub x m, nodePut _ _ _ _ _ (by omega) (by omega), if_neg (by rw [iI_le (by omega) (by omega) (by omega) (by omega)]; omega), iI_add]
      exact h1
    · by_cases q : (j : Int) = x - m
      · have := h3 j (by omega)
        rw [this.1, this.2, upd_in (by omega), upd_in (by omega), show (j + m).toNat = x.toNat by omega]
        exact ⟨rfl, rfl⟩
      · have := h2 j (by omega) g2
        rw [this.1, this.2, upd_ne (by omega), upd_ne (by omega)]
        exact ⟨rfl, rfl⟩
    · have := h3 j (by omega)
      rw [this.1, this.2, upd_ne (by omega), upd_ne (by omega)]
      exact ⟨rfl, rfl⟩
theorem closeGapOf (N st m : Int) (d lb : Nat → Int32) (hs : 0 ≤ st) (hm : 1 ≤ m) (hsm : st + m ≤ N) (hN : N ≤ 100) : ∃ d' lb' : Nat → Int32, mX3_closeGap (iI N) d lb (iI st) (iI m) = some (iI (N - m), d', lb') ∧ (∀ j : Nat, st ≤ j → (j : Int) < N - m → d' j = d (j + m).toNat ∧ lb' j = lb (j + m).toNat) ∧ (∀ j : Nat, (j : Int) < st → d' j = d j ∧ lb' j = lb j) := by
  obtain ⟨d', lb', h1, h2, h3⟩ := closeGap_4 N st m (iI st) hs hm hsm hN (N - st - m).toNat FU (st + m) d lb (by rw [FU_big]; omega) (by omega) (by omega)
  refine ⟨d', lb', ?_, fun j g1 g2 => h2 j (by omega) g2, fun j hj => h3 j (by omega)⟩
  unfold mX3_closeGap
  rw [iI_add]
  exact h1
theorem sink_3 (N e l : Int) (a : Int32) (he : e ≤ N) (hN : N ≤ 100) : ∀ (k f : Nat) (x : Int) (d lb : Nat → Int32), k < f → 0 ≤ x → x + k = e → ∃ d' lb' : Nat → Int32, mX3_sink_3 f (iI N) d lb a (iI e) (iI l) (iI x) = some (d', lb') ∧ (∀ j : Nat, x ≤ j → (j : Int) < e → d' j = d j + iI l) ∧ (∀ j : Nat, (j : Int) < x ∨ e ≤ j → d' j = d j) ∧ (∀ j : Nat, lb' j = lb j) := by
  intro k
  induction k with
  | zero =>
    intro f x d lb hf h0 hx
    obtain ⟨f, rfl⟩ : ∃ g, f = g + 1 := ⟨f - 1, by omega⟩
    refine ⟨d, lb, ?_, fun j h1 h2 => absurd h2 (by omega), fun j _ => rfl, fun j => rfl⟩
    rw [mX3_sink_3, if_pos (by rw [iI_le (by omega) (by omega) (by omega) (by omega)]; omega)]
  | succ k ih =>
    intro f x d lb hf h0 hx
    obtain ⟨f, rfl⟩ : ∃ g, f = g + 1 := ⟨f - 1, by omega⟩
    obtain ⟨d', lb', h1, h2, h3, h4⟩ := ih f (x + 1) (upd d x.toNat (d x.toNat + iI l)) (upd lb x.toNat (lb x.toNat)) (by omega) (by omega) (by omega)
    refine ⟨d', lb', ?_, fun j g1 g2 => ?_, fun j hj => ?_, fun j => ?_⟩
    · rw [mX3_sink_3, dRaw N x d (by omega) h0 (by omega), lRaw x lb h0 (by omega), nodePut _ _ _ _ _ h0 (by omega), if_neg (by rw [iI_le (by omega) (by omega) (by omega) (by omega)]; omega), iI_add]
      exact h1
    · by_cases q : (j : Int) = x
      · rw [h3 j (by omega), upd_in (by omega), show x.toNat = j by omega]
      · rw [h2 j (by omega) g2, upd_ne (by omega)]
    · rw [h3 j (by omega), upd_ne (by omega)]
    · rw [h4 j]
      by_cases q : j = x.toNat
      · rw [upd_in q, q]
      · rw [upd_ne q]
theorem sinkOf (N st e l : Int) (d lb : Nat → Int32) (hs : 0 ≤ st) (hse : st ≤ e) (he : e ≤ N) (hN : N ≤ 100) : ∃ d' lb' : Nat → Int32, mX3_sink (iI N) d lb (iI st) (iI e) (iI l) = some (d', lb') ∧ (∀ j : Nat, st ≤ j → (j : Int) < e → d' j = d j + iI l) ∧ (∀ j : Nat, (j : Int) < st ∨ e ≤ j → d' j = d j) ∧ (∀ j : Nat, lb' j = lb j) := by
  unfold mX3_sink
  exact sink_3 N e l _ he hN (e - st).toNat FU st d lb (by rw [FU_big]; omega) hs (by omega)
theorem hold_2 (N v m : Int) (d lb : Nat → Int32) (hv : 0 ≤ v) (hvm : v + m ≤ N) (hm1 : 1 ≤ m) (hN : N ≤ 100) : ∀ (k f : Nat) (x : Int) (xd xl : Nat → Int32), k < f → 0 ≤ x → x + k = m → ∃ xd' xl' : Nat → Int32, mX3_hold_2 f (iI N) d lb xd xl (iI v) (iI m) (iI x) = some (xd', xl') ∧ (∀ i : Int, x ≤ i → i < m → xd' i.toNat = d (v + i).toNat - d v.toNat ∧ xl' i.toNat = lb (v + i).toNat) ∧ (∀ j : Nat, (j : Int) < x → xd' j = xd j ∧ xl' j = xl j) := by
  intro k
  induction k with
  | zero =>
    intro f x xd xl hf h0 hx
    obtain ⟨f, rfl⟩ : ∃ g, f = g + 1 := ⟨f - 1, by omega⟩
    refine ⟨xd, xl, ?_, fun i h1 h2 => absurd h2 (by omega), fun j _ => ⟨rfl, rfl⟩⟩
    rw [mX3_hold_2, if_pos (by rw [iI_le (by omega) (by omega) (by omega) (by omega)]; omega)]
  | succ k ih =>
    intro f x xd xl hf h0 hx
    obtain ⟨f, rfl⟩ : ∃ g, f = g + 1 := ⟨f - 1, by omega⟩
    obtain ⟨xd', xl', h1, h2, h3⟩ := ih f (x + 1) (upd xd x.toNat (d (v + x).toNat - d v.toNat)) (upd xl x.toNat (lb (v + x).toNat)) (by omega) (by omega) (by omega)
    refine ⟨xd', xl', ?_, fun i g1 g2 => ?_, fun j hj => ?_⟩
    · rw [mX3_hold_2, iI_add v x, dRaw N (v + x) d (by omega) (by omega) (by omega), dRaw N v d (by omega) hv (by omega), lRaw (v + x) lb (by omega) (by omega), putOf 100 _ _ _ (by omega) h0 (by omega), putOf 100 _ _ _ (by omega) h0 (by omega), if_neg (by rw [iI_le (by omega) (by omega) (by omega) (by omega)]; omega), iI_add]
      exact h1
    · by_cases q : i = x
      · have := h3 i.toNat (by omega)
        rw [this.1, this.2, upd_in (by rw [q]), upd_in (by rw [q]), q]
        exact ⟨rfl, rfl⟩
      · exact h2 i (by omega) g2
    · have := h3 j (by omega)
      rw [this.1, this.2, upd_ne (by omega), upd_ne (by omega)]
      exact ⟨rfl, rfl⟩
theorem holdOf (N v m : Int) (d lb xd xl : Nat → Int32) (hv : 0 ≤ v) (hvm : v + m ≤ N) (hm1 : 1 ≤ m) (hN : N ≤ 100) : ∃ xd' xl' : Nat → Int32, mX3_hold (iI N) d lb xd xl (iI v) (iI m) = some (xd', xl') ∧ (∀ i : Int, 0 ≤ i → i < m → xd' i.toNat = d (v + i).toNat - d v.toNat ∧ xl' i.toNat = lb (v + i).toNat) := by
  obtain ⟨xd', xl', h1, h2, h3⟩ := hold_2 N v m d lb hv hvm hm1 hN m.toNat FU 0 xd xl (by rw [FU_big]; omega) (by omega) (by omega)
  exact ⟨xd', xl', h1, h2⟩
theorem release_3 (s m : Int) (e : Int32) (xd xl : Nat → Int32) (hs : 0 ≤ s) (hsm : s + m ≤ 100) : ∀ (k f : Nat) (x : Int) (d lb : Nat → Int32), k < f → 0 ≤ x → x + k = m → ∃ d' lb' : Nat → Int32, mX3_release_3 f d lb xd xl (iI s) (iI m) e (iI x) = some (d', lb') ∧ (∀ i : Int, x ≤ i → i < m → d' (s + i).toNat = xd i.toNat + e ∧ lb' (s + i).toNat = xl i.toNat) ∧ (∀ j : Nat, (j : Int) < s + x ∨ s + m ≤ j → d' j = d j ∧ lb' j = lb j) := by
  intro k
  induction k with
  | zero =>
    intro f x d lb hf h0 hx
    obtain ⟨f, rfl⟩ : ∃ g, f = g + 1 := ⟨f - 1, by omega⟩
    refine ⟨d, lb, ?_, fun i h1 h2 => absurd h2 (by omega), fun j _ => ⟨rfl, rfl⟩⟩
    rw [mX3_release_3, if_pos (by rw [iI_le (by omega) (by omega) (by omega) (by omega)]; omega)]
  | succ k ih =>
    intro f x d lb hf h0 hx
    obtain ⟨f, rfl⟩ : ∃ g, f = g + 1 := ⟨f - 1, by omega⟩
    obtain ⟨d', lb', h1, h2, h3⟩ := ih f (x + 1) (upd d (s + x).toNat (xd x.toNat + e)) (upd lb (s + x).toNat (xl x.toNat)) (by omega) (by omega) (by omega)
    refine ⟨d', lb', ?_, fun i g1 g2 => ?_, fun j hj => ?_⟩
    · rw [mX3_release_3, iI_add s x, getOf 100 _ _ (by omega) h0 (by omega), getOf 100 _ _ (by omega) h0 (by omega), nodePut _ _ _ _ _ (by omega) (by omega), if_neg (by rw [iI_le (by omega) (by omega) (by omega) (by omega)]; omega), iI_add]
      exact h1
    · by_cases q : i = x
      · have := h3 (s + i).toNat (by omega)
        rw [this.1, this.2, upd_in (by rw [q]), upd_in (by rw [q]), q]
        exact ⟨rfl, rfl⟩
      · exact h2 i (by omega) g2
    · have := h3 j (by omega)
      rw [this.1, this.2, upd_ne (by omega), upd_ne (by omega)]
      exact ⟨rfl, rfl⟩
theorem releaseOf (s m : Int) (e : Int32) (d lb xd xl : Nat → Int32) (hs : 0 ≤ s) (hm : 0 ≤ m) (hsm : s + m ≤ 100) : ∃ d' lb' : Nat → Int32, mX3_release d lb xd xl (iI s) (iI m) e = some (d', lb') ∧ (∀ i : Int, 0 ≤ i → i < m → d' (s + i).toNat = xd i.toNat + e ∧ lb' (s + i).toNat = xl i.toNat) ∧ (∀ j : Nat, (j : Int) < s ∨ s + m ≤ j → d' j = d j ∧ lb' j = lb j) := by
  obtain ⟨d', lb', h1, h2, h3⟩ := release_3 s m e xd xl hs hsm m.toNat FU 0 d lb (by rw [FU_big]; omega) (by omega) (by omega)
  exact ⟨d', lb', h1, h2, fun j hj => h3 j (by omega)⟩
/-! the reference's -/
theorem put_6 (n x2 x3 : Int32) (at_ : Int) (ha : 0 ≤ at_) (ha2 : at_ < 100) : ∀ (k f : Nat) (x : Int) (d lb : Nat → Int32), k < f → x = at_ + k → x < 100 → (∀ j : Nat, at_ ≤ j → (j : Int) < x → vp_nar .char (lb j) = lb j) → ∃ d' lb' : Nat → Int32, mX5_put_6 f n d lb (iI at_) x2 x3 (iI x) = some (n + iI 1, d', lb') ∧ (d' at_.toNat = x2 ∧ lb' at_.toNat = vp_nar .char x3) ∧ (∀ j : Nat, at_ < j → (j : Int) ≤ x → d' j = d (j - 1) ∧ lb' j = lb (j - 1)) ∧ (∀ j : Nat, (j : Int) < at_ ∨ x < j → d' j = d j ∧ lb' j = lb j) := by
  intro k
  induction k with
  | zero =>
    intro f x d lb hf hx hx2 hc
    obtain ⟨f, rfl⟩ : ∃ g, f = g + 1 := ⟨f - 1, by omega⟩
    refine ⟨upd d at_.toNat x2, upd lb at_.toNat (vp_nar .char x3), ?_, ⟨upd_in rfl, upd_in rfl⟩, fun j h1 h2 => absurd h2 (by omega), fun j hj => ⟨upd_ne (by omega), upd_ne (by omega)⟩⟩
    rw [mX5_put_6, if_pos (by rw [iI_le (by omega) (by omega) (by omega) (by omega)]; omega), gdi ha (by omega) (by omega), gdi ha (by omega) (by omega), iI_ix ha (by omega)]
  | succ k ih =>
    intro f x d lb hf hx hx2 hc
    obtain ⟨f, rfl⟩ : ∃ g, f = g + 1 := ⟨f - 1, by omega⟩
    obtain ⟨d', lb', h1, h2, h3, h4⟩ := ih f (x - 1) (upd d x.toNat (d (x - 1).toNat)) (upd lb x.toNat (lb (x - 1).toNat)) (by omega) (by omega) (by omega) (fun j g1 g2 => by rw [upd_ne (by omega)]; exact hc j g1 (by omega))
    refine ⟨d', lb', ?_, h2, fun j g1 g2 => ?_, fun j hj => ?_⟩
    · rw [mX5_put_6, if_neg (by rw [iI_le (by omega) (by omega) (by omega) (by omega)]; omega), iI_sub, gdi (by omega) (by omega) (by omega), gdi (by omega) (by omega) (by omega), gdi (by omega) (by omega) (by omega), gdi (by omega) (by omega) (by omega), iI_ix (by omega) (by omega), iI_ix (by omega) (by omega), hc _ (by omega) (by omega), iI_add]
      exact h1
    · by_cases q : (j : Int) = x
      · have := h4 j (by omega)
        rw [this.1, this.2, upd_in (by omega), upd_in (by omega), show (x - 1).toNat = j - 1 by omega]
        exact ⟨rfl, rfl⟩
      · have := h3 j g1 (by omega)
        rw [this.1, this.2, upd_ne (by omega), upd_ne (by omega)]
        exact ⟨rfl, rfl⟩
    · have := h4 j (by omega)
      rw [this.1, this.2, upd_ne (by omega), upd_ne (by omega)]
      exact ⟨rfl, rfl⟩
theorem mputOf (N at_ : Int) (x2 x3 : Int32) (d lb : Nat → Int32) (ha : 0 ≤ at_) (ha2 : at_ ≤ N) (hN : N < 100) (hc : ∀ j : Nat, at_ ≤ j → (j : Int) < N → vp_nar .char (lb j) = lb j) : ∃ d' lb' : Nat → Int32, mX5_put (iI N) d lb (iI at_) x2 x3 = some (iI (N + 1), d', lb') ∧ (d' at_.toNat = x2 ∧ lb' at_.toNat = vp_nar .char x3) ∧ (∀ j : Nat, at_ < j → (j : Int) ≤ N → d' j = d (j - 1) ∧ lb' j = lb (j - 1)) ∧ (∀ j : Nat, (j : Int) < at_ → d' j = d j ∧ lb' j = lb j) := by
  obtain ⟨d', lb', h1, h2, h3, h4⟩ := put_6 (iI N) x2 x3 at_ ha (by omega) (N - at_).toNat FU N d lb (by rw [FU_big]; omega) (by omega) hN hc
  refine ⟨d', lb', ?_, h2, h3, fun j hj => h4 j (Or.inl hj)⟩
  unfold mX5_put
  rw [h1, iI_add]
theorem take_12 (N m : Int) (a : Int32) (hm : 1 ≤ m) (hN : N + m ≤ 100) : ∀ (k f : Nat) (x : Int) (d lb : Nat → Int32), k < f → 0 ≤ x → x + k = N → (∀ j : Nat, x + m ≤ j → (j : Int) < N + m → vp_nar .char (lb j) = lb j) → ∃ d' lb' : Nat → Int32, mX5_take_12 f (iI N) d lb a (iI m) (iI x) = some (iI N, d', lb') ∧ (∀ j : Nat, x ≤ j → (j : Int) < N → d' j = d (j + m).toNat ∧ lb' j = lb (j + m).toNat) ∧ (∀ j : Nat, (j : Int) < x → d' j = d j ∧ lb' j = lb j) := by
  intro k
  induction k with
  | zero =>
    intro f x d lb hf h0 hx hc
    obtain ⟨f, rfl⟩ : ∃ g, f = g + 1 := ⟨f - 1, by omega⟩
    refine ⟨d, lb, ?_, fun j h1 h2 => absurd h2 (by omega), fun j _ => ⟨rfl, rfl⟩⟩
    rw [mX5_take_12, if_pos (by rw [iI_le (by omega) (by omega) (by omega) (by omega)]; omega)]
  | succ k ih =>
    intro f x d lb hf h0 hx hc
    obtain ⟨f, rfl⟩ : ∃ g, f = g + 1 := ⟨f - 1, by omega⟩
    obtain ⟨d', lb', h1, h2, h3⟩ := ih f (x + 1) (upd d x.toNat (d (x + m).toNat)) (upd lb x.toNat (lb (x + m).toNat)) (by omega) (by omega) (by omega) (fun j g1 g2 => by rw [upd_ne (by omega)]; exact hc j (by omega) g2)
    refine ⟨d', lb', ?_, fun j g1 g2 => ?_, fun j hj => ?_⟩
    · rw [mX5_take_12, if_neg (by rw [iI_le (by omega) (by omega) (by omega) (by omega)]; omega), iI_add x m, gdi (by omega) (by omega) (by omega), gdi (by omega) (by omega) (by omega), gdi (by omega) (by omega) (by omega), gdi (by omega) (by omega) (by omega), iI_ix (by omega) (by omega), iI_ix (by omega) (by omega), hc _ (by omega) (by omega), iI_add]
      exact h1
    · by_cases q : (j : Int) = x
      · have := h3 j (by omega)
        rw [this.1, this.2, upd_in (by omega), upd_in (by omega), show (x + m).toNat = (j + m).toNat by omega]
        exact ⟨rfl, rfl⟩
      · have := h2 j (by omega) g2
        rw [this.1, this.2, upd_ne (by omega), upd_ne (by omega)]
        exact ⟨rfl, rfl⟩
    · have := h3 j (by omega)
      rw [this.1, this.2, upd_ne (by omega), upd_ne (by omega)]
      exact ⟨rfl, rfl⟩
theorem takeOf (N st m : Int) (d lb : Nat → Int32) (hs : 0 ≤ st) (hm : 1 ≤ m) (hsm : st + m ≤ N) (hN : N ≤ 100) (hc : ∀ j : Nat, st + m ≤ j → (j : Int) < N → vp_nar .char (lb j) = lb j) : ∃ d' lb' : Nat → Int32, mX5_take (iI N) d lb (iI st) (iI m) = some (iI (N - m), d', lb') ∧ (∀ j : Nat, st ≤ j → (j : Int) < N - m → d' j = d (j + m).toNat ∧ lb' j = lb (j + m).toNat) ∧ (∀ j : Nat, (j : Int) < st → d' j = d j ∧ lb' j = lb j) := by
  unfold mX5_take
  rw [iI_sub]
  exact take_12 (N - m) m _ hm (by omega) (N - m - st).toNat FU st d lb (by rw [FU_big]; omega) hs (by omega) (fun j g1 g2 => hc j g1 (by omega))
/-! trees -/
theorem kth_mono (p : Int → Bool) (e : Int) : ∀ (k : Nat) (x j m : Int), x + k ≤ e → 0 ≤ j → 0 ≤ m → kth p e k x j ≤ kth p e k x (j + m)
  | 0, x, j, m, _, _, _ => Int.le_refl _
  | k + 1, x, j, m, h, h2, h3 => by
    by_cases c : p x = true
    · by_cases q : j = 0
      · rw [kth_here c q]
        by_cases t : j + m = 0
        · rw [kth_here c t]; exact Int.le_refl _
        · rw [kth_yes c t]
          rcases kth_bd p e k (x + 1) (j + m - 1) with g | g <;> omega
      · rw [kth_yes c q, kth_yes c (by omega), show j + m - 1 = j - 1 + m by omega]
        exact kth_mono p e k (x + 1) (j - 1) m (by omega) (by omega) h3
    · rw [kth_no c, kth_no c]
      exact kth_mono p e k (x + 1) j m (by omega) h2 h3
theorem TV.sp (T : TV N F G) (p j : Int) (h : 0 ≤ p) (h2 : p < N) : p < Sp F N p j ∧ Sp F N p j ≤ En F N p ∧ Sp F N p j ≤ N ∧ F (Sp F N p j) ≤ F p + 1 := by
  have e := T.en p h h2
  rcases kth_bd (Ch F p) (En F N p) (En F N p - p - 1).toNat (p + 1) j with g | g
  · have q : Sp F N p j = En F N p := g
    rw [q]; omega
  · have q0 : Ch F p (Sp F N p j) = true := g.2.2
    have q : F (Sp F N p j) = F p + 1 := by simpa [Ch] using q0
    have g1 : p + 1 ≤ Sp F N p j := g.1
    have g2 : Sp F N p j < p + 1 + ((En F N p - p - 1).toNat : Int) := g.2.1
    omega
theorem TV.spMono (T : TV N F G) (p j m : Int) (h : 0 ≤ p) (h2 : p < N) (hj : 0 ≤ j) (hm : 0 ≤ m) : Sp F N p j ≤ Sp F N p (j + m) := by
  have e := T.en p h h2
  exact kth_mono _ _ _ _ _ _ (by omega) hj hm
/-- wrapped: a node comes in at s, what is from s to e goes down by one -/
def wrF (F : Int → Int) (p s e y : Int) : Int := if y < s then F y else if y = s then F p + 1 else if y ≤ e then F (y - 1) + 1 else F (y - 1)
def wrG (G : Int → Int) (s g y : Int) : Int := if y < s then G y else if y = s then g else G (y - 1)
theorem TV.wrap (T : TV N F G) (p s e g : Int) (hp : 0 ≤ p) (hs : p < s) (hs2 : s ≤ En F N p) (hp2 : p < N) (hF : F s ≤ F p + 1) (hse : s ≤ e) (he : e ≤ N) (hN : N < 100) (hg : 97 ≤ g) (hg2 : g ≤ 122) : TV (N + 1) (wrF F p s e) (wrG G s g) := by
  have n := T.nn
  have en := T.en p hp hp2
  refine ⟨by omega, by omega, ?_, fun i h1 h2 => ?_, fun i hi => ?_, fun i h1 h2 => ?_⟩
  · unfold wrF; rw [if_pos (by omega)]; exact T.2.2.1
  · unfold wrF
    have fp := T.bd p
    by_cases c1 : i < s
    · have t := T.2.2.2.1 i h1 (by omega)
      rw [if_pos c1, if_pos (by omega)]
      exact t
    · rw [if_neg c1]
      by_cases c2 : i = s
      · rw [if_pos c2, if_pos (by omega)]
        have : F p ≤ F (i - 1) := by
          by_cases q : i - 1 = p
          · rw [q]; exact Int.le_refl _
          · have := en.2.2.1 (i - 1) (by omega) (by omega); omega
        omega
      · rw [if_neg c2, if_neg (by omega : ¬ i - 1 < s)]
        by_cases c3 : i - 1 = s
        · rw [if_pos c3]
          by_cases c4 : i ≤ e
          · rw [if_pos c4, c3]
            have := T.bd s
            omega
          · rw [if_neg c4, c3]
            have := T.pos s (by omega) (by omega)
            omega
        · rw [if_neg c3]
          have t := T.2.2.2.1 (i - 1) (by omega) (by omega)
          by_cases c4 : i ≤ e
          · rw [if_pos c4, if_pos (by omega)]
            omega
          · rw [if_neg c4]
            by_cases c5 : i - 1 ≤ e
            · rw [if_pos c5]; omega
            · rw [if_neg c5]; exact t
  · unfold wrF
    rcases hi with q | q
    · rw [if_pos (by omega)]; exact T.out i (Or.inl q)
    · rw [if_neg (by omega), if_neg (by omega), if_neg (by omega)]; exact T.out (i - 1) (by omega)
  · unfold wrG
    by_cases c1 : i < s
    · rw [if_pos c1]; exact T.lab i h1 (by omega)
    · rw [if_neg c1]
      by_cases c2 : i = s
      · rw [if_pos c2]; omega
      · rw [if_neg c2]; exact T.lab (i - 1) (by omega) (by omega)
/-- removed alone: what is below v, up to e, goes up by one -/
def reF (F : Int → Int) (v e y : Int) : Int := if y < v then F y else if y + 1 < e then F (y + 1) - 1 else F (y + 1)
/-- m places go out from v on -/
def cuF (F : Int → Int) (v m y : Int) : Int := if y < v then F y else F (y + m)
theorem TV.rem (T : TV N F G) (v : Int) (h : 0 < v) (h2 : v < N) : TV (N - 1) (reF F v (En F N v)) (cuF G v 1) := by
  have n := T.nn
  have en := T.en v (by omega) h2
  have pv := T.2.2.2.1 v h h2
  refine ⟨by omega, by omega, ?_, fun i h1 h3 => ?_, fun i hi => ?_, fun i h1 h3 => ?_⟩
  · unfold reF; rw [if_pos h]; exact T.2.2.1
  · unfold reF
    by_cases c1 : i < v
    · rw [if_pos c1, if_pos (by omega)]; exact T.2.2.2.1 i h1 (by omega)
    · have t := T.2.2.2.1 (i + 1) (by omega) (by omega)
      rw [show i + 1 - 1 = i by omega] at t
      rw [if_neg c1]
      by_cases c2 : i - 1 < v
      · have iv : i = v := by omega
        rw [if_pos c2, iv]
        rw [iv] at t
        by_cases c3 : v + 1 < En F N v
        · have := en.2.2.1 (v + 1) (by omega) c3
          rw [if_pos c3]
          omega
        · rw [if_neg c3]
          have : En F N v = v + 1 := by omega
          rw [this] at en
          omega
      · rw [if_neg c2, show i - 1 + 1 = i by omega]
        by_cases c3 : i + 1 < En F N v
        · have := en.2.2.1 (i + 1) (by omega) c3
          have := T.bd v
          rw [if_pos c3, if_pos (by omega)]
          omega
        · rw [if_neg c3]
          by_cases c4 : i < En F N v
          · have := en.2.2.1 i (by omega) c4
            have e1 : En F N v = i + 1 := by omega
            rw [e1] at en
            rw [if_pos c4]
            omega
          · rw [if_neg c4]; exact t
  · unfold reF
    rcases hi with q | q
    · rw [if_pos (by omega)]; exact T.out i (Or.inl q)
    · rw [if_neg (by omega), if_neg (by omega)]; exact T.out (i + 1) (by omega)
  · unfold cuF
    by_cases c1 : i < v
    · rw [if_pos c1]; exact T.lab i h1 (by omega)
    · rw [if_neg c1]; exact T.lab (i + 1) (by omega) (by omega)
theorem TV.cut (T : TV N F G) (v m : Int) (h : 0 < v) (h2 : v < N) (hm : m = En F N v - v) : TV (N - m) (cuF F v m) (cuF G v m) := by
  have n := T.nn
  have en := T.en v (by omega) h2
  have pv := T.2.2.2.1 v h h2
  refine ⟨by omega, by omega, ?_, fun i h1 h3 => ?_, fun i hi => ?_, fun i h1 h3 => ?_⟩
  · unfold cuF; rw [if_pos h]; exact T.2.2.1
  · unfold cuF
    by_cases c1 : i < v
    · rw [if_pos c1, if_pos (by omega)]; exact T.2.2.2.1 i h1 (by omega)
    · have t := T.2.2.2.1 (i + m) (by omega) (by omega)
      rw [if_neg c1]
      by_cases c2 : i - 1 < v
      · have iv : i = v := by omega
        rw [if_pos c2, iv, show v + m = En F N v by omega]
        rw [iv, show v + m = En F N v by omega] at t
        omega
      · rw [if_neg c2, show i - 1 + m = i + m - 1 by omega]
        exact t
  · unfold cuF
    rcases hi with q | q
    · rw [if_pos (by omega)]; exact T.out i (Or.inl q)
    · rw [if_neg (by omega)]; exact T.out (i + m) (by omega)
  · unfold cuF
    by_cases c1 : i < v
    · rw [if_pos c1]; exact T.lab i h1 (by omega)
    · rw [if_neg c1]; exact T.lab (i + m) (by omega) (by omega)
/-- m places with R come in at s -/
def inF (F R : Int → Int) (s m y : Int) : Int := if y < s then F y else if y < s + m then R (y - s) else F (y - m)
theorem TV.ins (T : TV N F G) (t s m : Int) (R L : Int → Int) (ht : 0 ≤ t) (ht2 : t < N) (hs : t < s) (hs2 : s ≤ En F N t) (hF : F s ≤ F t + 1) (hm : 1 ≤ m) (hNm : N + m ≤ 100) (hR : R 0 = F t + 1) (hR2 : ∀ i, 0 < i → i < m → F t + 1 ≤ R i ∧ R i ≤ R (i - 1) + 1) (hL : ∀ i, 0 ≤ i → i < m → 97 ≤ L i ∧ L i ≤ 122) : TV (N + m) (inF F R s m) (inF G L s m) := by
  have n := T.nn
  have en := T.en t ht ht2
  have bt := T.bd t
  refine ⟨by omega, by omega, ?_, fun i h1 h3 => ?_, fun i hi => ?_, fun i h1 h3 => ?_⟩
  · unfold inF; rw [if_pos (by omega)]; exact T.2.2.1
  · unfold inF
    by_cases c1 : i < s
    · rw [if_pos c1, if_pos (by omega)]; exact T.2.2.2.1 i h1 (by omega)
    · rw [if_neg c1]
      by_cases c2 : i < s + m
      · rw [if_pos c2]
        by_cases c3 : i = s
        · rw [if_pos (by omega), show i - s = 0 by omega, hR]
          have : F t ≤ F (i - 1) := by
            by_cases q : i - 1 = t
            · rw [q]; exact Int.le_refl _
            · have := en.2.2.1 (i - 1) (by omega) (by omega); omega
          omega
        · have := hR2 (i - s) (by omega) (by omega)
          rw [if_neg (by omega), if_pos (by omega), show i - 1 - s = i - s - 1 by omega]
          omega
      · rw [if_neg c2, if_neg (by omega)]
        have q := T.2.2.2.1 (i - m) (by omega) (by omega)
        by_cases c3 : i - 1 < s + m
        · rw [if_pos c3]
          have e1 : i - m = s := by omega
          rw [e1] at q ⊢
          have : F t + 1 ≤ R (i - 1 - s) := by
            by_cases z : i - 1 - s = 0
            · rw [z, hR]; exact Int.le_refl _
            · exact (hR2 (i - 1 - s) (by omega) (by omega)).1
          omega
        · rw [if_neg c3, show i - 1 - m = i - m - 1 by omega]
          exact q
  · unfold inF
    rcases hi with q | q
    · rw [if_pos (by omega)]; exact T.out i (Or.inl q)
    · rw [if_neg (by omega), if_neg (by omega)]; exact T.out (i - m) (by omega)
  · unfold inF
    by_cases c1 : i < s
    · rw [if_pos c1]; exact T.lab i h1 (by omega)
    · rw [if_neg c1]
      by_cases c2 : i < s + m
      · rw [if_pos c2]; exact hL (i - s) (by omega) (by omega)
      · rw [if_neg c2]; exact T.lab (i - m) (by omega) (by omega)
end EDIT
