/-! 35 (out of whole's 21) -/
/-! 21: characters, the typed text, and the kept trees -/
theorem putOf (len : Nat) (f : Nat → Int32) (z : Int) (x : Int32) (hl : (len : Int) < 2147483648) (h1 : 0 ≤ z) (h2 : z < len) : mX4_put len f (iI z) x = upd f z.toNat x := by
  unfold mX4_put
  simp (disch := omega) only [iI_zero, iI_len, iI_le, iI_lt, iI_eq, iI_add, iI_sub, iI_mul, Option.bind_some, iI_ix]
  rw [if_neg (by omega), if_neg (by omega)]
theorem upd_in {f : Nat → Int32} {k j : Nat} {x : Int32} (h : j = k) : upd f k x j = x := by rw [h]; exact pk_us
theorem upd_ne {f : Nat → Int32} {k j : Nat} {x : Int32} (h : j ≠ k) : upd f k x j = f j := pk_un h
theorem narN {q : Nat} (hq : q < 65536) : vp_nar .char (nI q) = nI q := by
  have h := (pk_charN hq).1
  unfold vp_nar
  rw [h]
theorem narC {z : Int} (h : 0 ≤ z) (h2 : z < 65536) : vp_nar .char (iI z) = iI z := by
  have e : z = ((z.toNat : Nat) : Int) := by omega
  rw [e, iI_nat]
  exact narN (by omega)
theorem c16C {z : Int} (h : 0 ≤ z) (h2 : z < 65536) : c16 (iI z) = iI z := by
  have e : z = ((z.toNat : Nat) : Int) := by omega
  rw [e, iI_nat]
  show (_ % 65536 : UInt32).toInt32 = _
  rw [pk_char, pk_tn (by omega), Nat.mod_eq_of_lt (by omega)]
theorem c16All (x : Int32) : ∃ z : Int, c16 x = iI z ∧ 0 ≤ z ∧ z < 65536 := by
  refine ⟨((x.toBitVec.toNat % 65536 : Nat) : Int), ?_, by omega, by omega⟩
  rw [iI_nat]
  exact pk_char x
section HIST
variable {N : Int} {F G : Int → Int} {d lb : Nat → Int32}
theorem record_25 (T : TR N F G (iI N) d lb) (S K : Int) (ct : Nat → Int32) (hS : 0 ≤ S) (hS2 : S < 15) (hK : 0 ≤ K) (hK2 : K ≤ 15) : ∀ (k f : Nat) (x : Int) (gd gl : Nat → Int32), k < f → 0 ≤ x → x + k = N → ∃ gd' gl' : Nat → Int32, mX1_record_25 f (iI N) d lb (iI S) (iI K) ct gd gl (iI (100 * S)) (iI x) = some (iI (if 15 ≤ S + 1 then 0 else S + 1), iI (if 15 < K + 1 then 15 else K + 1), ct, gd', gl') ∧ (∀ i, x ≤ i → i < N → gd' (100 * S + i).toNat = iI (F i) ∧ gl' (100 * S + i).toNat = iI (G i)) ∧ (∀ j : Nat, ((j : Int) < 100 * S + x ∨ 100 * S + N ≤ j) → gd' j = gd j ∧ gl' j = gl j) := by
  have hN := T.1.nn
  intro k
  induction k with
  | zero =>
    intro f x gd gl hf h0 hx
    obtain ⟨f, rfl⟩ : ∃ g, f = g + 1 := ⟨f - 1, by omega⟩
    refine ⟨gd, gl, ?_, fun i h1 h2 => absurd h2 (by omega), fun j _ => ⟨rfl, rfl⟩⟩
    rw [mX1_record_25]
    simp only [mX3_count, iMin]
    simp (disch := omega) only [iI_zero, iI_len, iI_le, iI_lt, iI_eq, iI_add, iI_sub, iI_mul, Option.bind_some, iI_ite]
    rw [if_pos (by omega)]
    by_cases q : 15 ≤ S + 1
    · rw [if_pos q, if_pos q]
    · rw [if_neg q, if_neg q]
  | succ k ih =>
    intro f x gd gl hf h0 hx
    obtain ⟨f, rfl⟩ : ∃ g, f = g + 1 := ⟨f - 1, by omega⟩
    obtain ⟨gd', gl', h1, h2, h3⟩ := ih f (x + 1) (upd gd (100 * S + x).toNat (iI (F x))) (upd gl (100 * S + x).toNat (iI (G x))) (by omega) (by omega) (by omega)
    refine ⟨gd', gl', ?_, fun i g1 g2 => ?_, fun j hj => ?_⟩
    · rw [mX1_record_25, dOf T x (by omega) (by omega), lOf T x h0 (by omega)]
      simp only [iI_add]
      rw [putOf 1500 _ _ _ (by omega) (by omega) (by omega), putOf 1500 _ _ _ (by omega) (by omega) (by omega), h1, if_neg (by show ¬ iI N ≤ iI x; rw [iI_le (by omega) (by omega) (by omega) (by omega)]; omega)]
    · by_cases q : i = x
      · have := h3 (100 * S + x).toNat (Or.inl (by omega))
        rw [q, this.1, this.2, upd_in rfl, upd_in rfl]
        exact ⟨rfl, rfl⟩
      · exact h2 i (by omega) g2
    · have := h3 j (by omega)
      rw [this.1, this.2, upd_ne (by omega), upd_ne (by omega)]
      exact ⟨rfl, rfl⟩
theorem recordOf (T : TR N F G (iI N) d lb) (S K : Int) (ct gd gl : Nat → Int32) (hS : 0 ≤ S) (hS2 : S < 15) (hK : 0 ≤ K) (hK2 : K ≤ 15) : ∃ gd' gl' : Nat → Int32, mX1_record (iI N) d lb (iI S) (iI K) ct gd gl = some (iI (if 15 ≤ S + 1 then 0 else S + 1), iI (if 15 < K + 1 then 15 else K + 1), upd ct S.toNat (iI N), gd', gl') ∧ (∀ i, 0 ≤ i → i < N → gd' (100 * S + i).toNat = iI (F i) ∧ gl' (100 * S + i).toNat = iI (G i)) ∧ (∀ j : Nat, ((j : Int) < 100 * S ∨ 100 * S + 100 ≤ j) → gd' j = gd j ∧ gl' j = gl j) := by
  have hN := T.1.nn
  obtain ⟨gd', gl', h1, h2, h3⟩ := record_25 T S K (upd ct S.toNat (iI N)) hS hS2 hK hK2 N.toNat FU 0 gd gl (by rw [FU_big]; omega) (by omega) (by omega)
  refine ⟨gd', gl', ?_, h2, fun j hj => h3 j (by omega)⟩
  unfold mX1_record mX3_count
  rw [putOf 15 _ _ _ (by omega) hS (by omega), iI_mul, show S * 100 = 100 * S by omega]
  exact h1
theorem appendOf (x a b : Int) (h : 0 ≤ x) (h2 : x < 100) : mX3_append (iI x) d lb (iI a) (iI b) = (iI (x + 1), upd d x.toNat (iI a), upd lb x.toNat (iI b)) := by
  unfold mX3_append mX3_putNode
  rw [if_neg (by rw [iI_le (by omega) (by omega) (by omega) (by omega)]; omega), iI_add, putOf 100 _ _ _ (by omega) h (by omega), putOf 100 _ _ _ (by omega) h (by omega)]
theorem recall_63 (T : TV N F G) (sl kp : Int32) (ct gd gl : Nat → Int32) (p : Int) (hp : 0 ≤ p) (hp2 : p < 15) (hg : ∀ i, 0 ≤ i → i < N → gd (100 * p + i).toNat = iI (F i)) (hl : ∀ i, 0 ≤ i → i < N → gl (100 * p + i).toNat = iI (G i)) : ∀ (k f : Nat) (x : Int) (d lb : Nat → Int32), k < f → 0 ≤ x → x + k = N → (∀ i, 0 ≤ i → i < x → d i.toNat = iI (F i) ∧ lb i.toNat = iI (G i)) → ∃ d' lb' : Nat → Int32, mX1_recall_63 f (iI x) d lb sl kp ct gd gl (iI (100 * p)) (iI N) (iI x) = some (kp, iI N, d', lb', sl, kp) ∧ (∀ i, 0 ≤ i → i < N → d' i.toNat = iI (F i) ∧ lb' i.toNat = iI (G i)) := by
  have hN := T.nn
  intro k
  induction k with
  | zero =>
    intro f x d lb hf h0 hx hd
    obtain ⟨f, rfl⟩ : ∃ g, f = g + 1 := ⟨f - 1, by omega⟩
    refine ⟨d, lb, ?_, fun i h1 h2 => hd i h1 (by omega)⟩
    rw [mX1_recall_63, if_pos (by rw [iI_le (by omega) (by omega) (by omega) (by omega)]; omega), show x = N by omega]
  | succ k ih =>
    intro f x d lb hf h0 hx hd
    obtain ⟨f, rfl⟩ : ∃ g, f = g + 1 := ⟨f - 1, by omega⟩
    obtain ⟨d', lb', h1, h2⟩ := ih f (x + 1) (upd d x.toNat (iI (F x))) (upd lb x.toNat (iI (G x))) (by omega) (by omega) (by omega) (fun i g1 g2 => by
      by_cases q : i = x
      · rw [q, upd_in rfl, upd_in rfl]; exact ⟨rfl, rfl⟩
      · rw [upd_ne (by omega), upd_ne (by omega)]; exact hd i g1 (by omega))
    refine ⟨d', lb', ?_, h2⟩
    rw [mX1_recall_63, iI_add, getOf 1500 _ _ (by omega) (by omega) (by omega), getOf 1500 _ _ (by omega) (by omega) (by omega), hg x h0 (by omega), hl x h0 (by omega), appendOf x _ _ h0 (by omega), if_neg (by rw [iI_le (by omega) (by omega) (by omega) (by omega)]; omega), iI_add]
    exact h1
end HIST
