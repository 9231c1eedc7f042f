/-! 21: characters, the typed text, and the kept trees -/
theorem putOf (len : Nat) (f : Nat → Int32) (z : Int) (x : Int32) (hl : (len : Int) < 2147483648) (h1 : 0 ≤ z) (h2 : z < len) : mX4_put len f (iI z) x = upd f z.toNat x := by
  unfold mX4_put
  simp (disch := omega) only [iI_zero, iI_len, iI_le, iI_lt, iI_eq, iI_add, iI_sub, iI_mul, Option.bind_some, iI_ix]
  rw [if_neg (by omega), if_neg (by omega)]
theorem upd_in {f : Nat → Int32} {k j : Nat} {x : Int32} (h : j = k) : upd f k x j = x := by rw [h]; exact pk_us
theorem upd_ne {f : Nat → Int32} {k j : Nat} {x : Int32} (h : j ≠ k) : upd f k x j = f j := pk_un h
theorem narN {q : Nat} (hq : q < 65536) : vp_nar .char (nI q) = nI q := by
  have h := (pk_charN hq).1
  unfold vp_nar
  rw [h]
theorem narC {z : Int} (h : 0 ≤ z) (h2 : z < 65536) : vp_nar .char (iI z) = iI z := by
  have e : z = ((z.toNat : Nat) : Int) := by omega
  rw [e, iI_nat]
  exact narN (by omega)
theorem c16C {z : Int} (h : 0 ≤ z) (h2 : z < 65536) : c16 (iI z) = iI z := by
  have e : z = ((z.toNat : Nat) : Int) := by omega
  rw [e, iI_nat]
  show (_ % 65536 : UInt32).toInt32 = _
  rw [pk_char, pk_tn (by omega), Nat.mod_eq_of_lt (by omega)]
theorem c16All (x : Int32) : ∃ z : Int, c16 x = iI z ∧ 0 ≤ z ∧ z < 65536 := by
  refine ⟨((x.toBitVec.toNat % 65536 : Nat) : Int), ?_, by omega, by omega⟩
  rw [iI_nat]
  exact pk_char x
theorem st_type {n : Int32} {d : Nat → Int32} {lb : Nat → Int32} {wi : Int32} {sl : Int32} {kp : Int32} {ct : Nat → Int32} {gd : Nat → Int32} {gl : Nat → Int32} {ln : Int32} {ch : Nat → Int32} {mn : Int32} {md : Nat → Int32} {ml : Nat → Int32} {mk : Int32} {mr : Nat → Int32} {mt : Int32} {mx : Nat → Int32} {mw : Int32} (I : Inv n d lb wi sl kp ct gd gl ln ch mn md ml mk mr mt mx mw) (a0 : Int32) : ∃ (RA : Int32 × Int32 × (Nat → Int32)) (RM : Int32 × Int32 × (Nat → Int32)), mX4_type ln ch (c16 a0) = RA ∧ mX5_type mt mx (c16 a0) = some RM ∧ RA.1 = RM.1 ∧ Inv n d lb wi sl kp ct gd gl RA.2.1 RA.2.2 mn md ml mk mr RM.2.1 RM.2.2 mw := by
  obtain ⟨t, E, rfl, rfl, ht, ht2, hE⟩ := I.2.2.2
  obtain ⟨z, hz, hz1, hz2⟩ := c16All a0
  rw [hz]
  unfold mX4_type mX2_append mX5_type
  by_cases c : t = 300
  · refine ⟨_, _, rfl, by rw [if_pos (by rw [c])], ?_, ?_⟩
    · dsimp only
      rw [if_neg (by rw [iI_lt (by omega) (by omega) (by omega) (by omega)]; omega)]
    · dsimp only
      rw [if_neg (by rw [iI_lt (by omega) (by omega) (by omega) (by omega)]; omega)]
      exact I
  · refine ⟨_, _, rfl, by rw [if_neg (by rw [iI_eq (by omega) (by omega) (by omega) (by omega)]; exact c), gdi ht (by omega) (by omega)], ?_, ?_⟩
    · dsimp only
      rw [if_pos (by rw [iI_lt (by omega) (by omega) (by omega) (by omega)]; omega)]
    · dsimp only
      rw [if_pos (by rw [iI_lt (by omega) (by omega) (by omega) (by omega)]; omega)]
      dsimp only
      refine ⟨I.1, I.2.1, I.2.2.1, t + 1, fun i => if i = t then z else E i, iI_add t 1, iI_add t 1, by omega, by omega, fun i h1 h2 => ?_⟩
      rw [putOf 300 _ t _ (by omega) ht (by omega), iI_ix ht (by omega), narC hz1 hz2]
      dsimp only
      by_cases q : i = t
      · rw [if_pos q, upd_in (by rw [q]), upd_in (by rw [q])]
        exact ⟨rfl, rfl, hz1, hz2⟩
      · rw [if_neg q, upd_ne (by omega), upd_ne (by omega)]
        exact hE i h1 (by omega)
theorem st_clearText {n : Int32} {d : Nat → Int32} {lb : Nat → Int32} {wi : Int32} {sl : Int32} {kp : Int32} {ct : Nat → Int32} {gd : Nat → Int32} {gl : Nat → Int32} {ln : Int32} {ch : Nat → Int32} {mn : Int32} {md : Nat → Int32} {ml : Nat → Int32} {mk : Int32} {mr : Nat → Int32} {mt : Int32} {mx : Nat → Int32} {mw : Int32} (I : Inv n d lb wi sl kp ct gd gl ln ch mn md ml mk mr mt mx mw)  : ∃ (RA : Int32 × Int32) (RM : Int32 × Int32), mX4_clearText ln = RA ∧ mX5_clearText mt = RM ∧ RA.1 = RM.1 ∧ Inv n d lb wi sl kp ct gd gl RA.2 ch mn md ml mk mr RM.2 mx mw := by
  obtain ⟨t, E, rfl, rfl, ht, ht2, hE⟩ := I.2.2.2
  exact ⟨_, _, rfl, rfl, rfl, I.1, I.2.1, I.2.2.1, 0, E, rfl, rfl, by omega, by omega, fun i h1 h2 => absurd h2 (by omega)⟩
section HIST
variable {N : Int} {F G : Int → Int} {d lb : Nat → Int32}
theorem record_25 (T : TR N F G (iI N) d lb) (S K : Int) (ct : Nat → Int32) (hS : 0 ≤ S) (hS2 : S < 15) (hK : 0 ≤ K) (hK2 : K ≤ 15) : ∀ (k f : Nat) (x : Int) (gd gl : Nat → Int32), k < f → 0 ≤ x → x + k = N → ∃ gd' gl' : Nat → Int32, mX1_record_25 f (iI N) d lb (iI S) (iI K) ct gd gl (iI (100 * S)) (iI x) = some (iI (if 15 ≤ S + 1 then 0 else S + 1), iI (if 15 < K + 1 then 15 else K + 1), ct, gd', gl') ∧ (∀ i, x ≤ i → i < N → gd' (100 * S + i).toNat = iI (F i) ∧ gl' (100 * S + i).toNat = iI (G i)) ∧ (∀ j : Nat, ((j : Int) < 100 * S + x ∨ 100 * S + N ≤ j) → gd' j = gd j ∧ gl' j = gl j) := by
  have hN := T.1.nn
  intro k
  induction k with
  | zero =>
    intro f x gd gl hf h0 hx
    obtain ⟨f, rfl⟩ : ∃ g, f = g + 1 := ⟨f - 1, by omega⟩
    refine ⟨gd, gl, ?_, fun i h1 h2 => absurd h2 (by omega), fun j _ => ⟨rfl, rfl⟩⟩
    rw [mX1_record_25]
    simp only [mX3_count, iMin]
    simp (disch := omega) only [iI_zero, iI_len, iI_le, iI_lt, iI_eq, iI_add, iI_sub, iI_mul, Option.bind_some, iI_ite]
    rw [if_pos (by omega)]
    by_cases q : 15 ≤ S + 1
    · rw [if_pos q, if_pos q]
    · rw [if_neg q, if_neg q]
  | succ k ih =>
    intro f x gd gl hf h0 hx
    obtain ⟨f, rfl⟩ : ∃ g, f = g + 1 := ⟨f - 1, by omega⟩
    obtain ⟨gd', gl', h1, h2, h3⟩ := ih f (x + 1) (upd gd (100 * S + x).toNat (iI (F x))) (upd gl (100 * S + x).toNat (iI (G x))) (by omega) (by omega) (by omega)
    refine ⟨gd', gl', ?_, fun i g1 g2 => ?_, fun j hj => ?_⟩
    · rw [mX1_record_25, dOf T x (by omega) (by omega), lOf T x h0 (by omega)]
      simp only [iI_add]
      rw [putOf 1500 _ _ _ (by omega) (by omega) (by omega), putOf 1500 _ _ _ (by omega) (by omega) (by omega), h1, if_neg (by show ¬ iI N ≤ iI x; rw [iI_le (by omega) (by omega) (by omega) (by omega)]; omega)]
    · by_cases q : i = x
      · have := h3 (100 * S + x).toNat (Or.inl (by omega))
        rw [q, this.1, this.2, upd_in rfl, upd_in rfl]
        exact ⟨rfl, rfl⟩
      · exact h2 i (by omega) g2
    · have := h3 j (by omega)
      rw [this.1, this.2, upd_ne (by omega), upd_ne (by omega)]
      exact ⟨rfl, rfl⟩
theorem recordOf (T : TR N F G (iI N) d lb) (S K : Int) (ct gd gl : Nat → Int32) (hS : 0 ≤ S) (hS2 : S < 15) (hK : 0 ≤ K) (hK2 : K ≤ 15) : ∃ gd' gl' : Nat → Int32, mX1_record (iI N) d lb (iI S) (iI K) ct gd gl = some (iI (if 15 ≤ S + 1 then 0 else S + 1), iI (if 15 < K + 1 then 15 else K + 1), upd ct S.toNat (iI N), gd', gl') ∧ (∀ i, 0 ≤ i → i < N → gd' (100 * S + i).toNat = iI (F i) ∧ gl' (100 * S + i).toNat = iI (G i)) ∧ (∀ j : Nat, ((j : Int) < 100 * S ∨ 100 * S + 100 ≤ j) → gd' j = gd j ∧ gl' j = gl j) := by
  have hN := T.1.nn
  obtain ⟨gd', gl', h1, h2, h3⟩ := record_25 T S K (upd ct S.toNat (iI N)) hS hS2 hK hK2 N.toNat FU 0 gd gl (by rw [FU_big]; omega) (by omega) (by omega)
  refine ⟨gd', gl', ?_, h2, fun j hj => h3 j (by omega)⟩
  unfold mX1_record mX3_count
  rw [putOf 15 _ _ _ (by omega) hS (by omega), iI_mul, show S * 100 = 100 * S by omega]
  exact h1
theorem keep_76 (T : TR N F G (iI N) d lb) (K : Int) (hK : 0 ≤ K) (hK2 : K ≤ 14) : ∀ (k f : Nat) (x : Int) (kr : Nat → Int32), k < f → 0 ≤ x → x + k = N → ∃ kr' : Nat → Int32, mX5_keep_76 f (iI N) d lb (iI K) kr (iI (201 * K)) (iI x) = some (iI (K + 1), kr') ∧ (∀ i, x ≤ i → i < N → kr' (201 * K + 1 + i).toNat = iI (F i) ∧ kr' (201 * K + 101 + i).toNat = iI (G i)) ∧ (∀ j : Nat, (∀ i, x ≤ i → i < N → (j : Int) ≠ 201 * K + 1 + i ∧ (j : Int) ≠ 201 * K + 101 + i) → kr' j = kr j) := by
  have hN := T.1.nn
  intro k
  induction k with
  | zero =>
    intro f x kr hf h0 hx
    obtain ⟨f, rfl⟩ : ∃ g, f = g + 1 := ⟨f - 1, by omega⟩
    refine ⟨kr, ?_, fun i h1 h2 => absurd h2 (by omega), fun j _ => rfl⟩
    rw [mX5_keep_76]
    simp (disch := omega) only [iI_zero, iI_len, iI_le, iI_lt, iI_eq, iI_add, iI_sub, iI_mul, Option.bind_some]
    rw [if_pos (by omega)]
  | succ k ih =>
    intro f x kr hf h0 hx
    obtain ⟨f, rfl⟩ : ∃ g, f = g + 1 := ⟨f - 1, by omega⟩
    obtain ⟨kr', h1, h2, h3⟩ := ih f (x + 1) (upd (upd kr (201 * K + 1 + x).toNat (iI (F x))) (201 * K + 101 + x).toNat (iI (G x))) (by omega) (by omega) (by omega)
    refine ⟨kr', ?_, fun i g1 g2 => ?_, fun j hj => ?_⟩
    · rw [mX5_keep_76]
      simp only [iI_add]
      rw [gdi h0 (by omega) (by omega), gdi (by omega) (by omega) (by omega), gdi h0 (by omega) (by omega), gdi (by omega) (by omega) (by omega), dAt T x h0 (by omega), lAt T x h0 (by omega), iI_ix (by omega) (by omega), iI_ix (by omega) (by omega), h1, if_neg (by rw [iI_le (by omega) (by omega) (by omega) (by omega)]; omega)]
    · by_cases q : i = x
      · have a := h3 (201 * K + 1 + x).toNat (fun i g3 g4 => by omega)
        have b := h3 (201 * K + 101 + x).toNat (fun i g3 g4 => by omega)
        rw [q, a, b, upd_ne (by omega), upd_in rfl, upd_in rfl]
        exact ⟨rfl, rfl⟩
      · exact h2 i (by omega) g2
    · have a := h3 j (fun i g1 g2 => hj i (by omega) g2)
      have b := hj x (Int.le_refl _) (by omega)
      rw [a, upd_ne (by omega), upd_ne (by omega)]
theorem keep_21 (n : Int32) : ∀ (k f : Nat) (x : Int) (kr : Nat → Int32), k < f → 0 ≤ x → x + k = 2814 → ∃ kr2 : Nat → Int32, mX5_keep_21 f n d lb (iI 14) kr (iI x) = mX5_keep_76 FU n d lb (iI 14) (upd kr2 2814 n) (iI (201 * 14)) (iI 0) ∧ (∀ j : Nat, x ≤ j → j < 2814 → kr2 j = kr (j + 201)) ∧ (∀ j : Nat, (j : Int) < x → kr2 j = kr j) := by
  intro k
  induction k with
  | zero =>
    intro f x kr hf h0 hx
    obtain ⟨f, rfl⟩ : ∃ g, f = g + 1 := ⟨f - 1, by omega⟩
    refine ⟨kr, ?_, fun j h1 h2 => absurd h2 (by omega), fun j _ => rfl⟩
    rw [mX5_keep_21, iI_mul, if_pos (by rw [iI_le (by omega) (by omega) (by omega) (by omega)]; omega), gdi (by omega) (by omega) (by omega), iI_ix (by omega) (by omega)]
    rfl
  | succ k ih =>
    intro f x kr hf h0 hx
    obtain ⟨f, rfl⟩ : ∃ g, f = g + 1 := ⟨f - 1, by omega⟩
    obtain ⟨kr2, h1, h2, h3⟩ := ih f (x + 1) (upd kr x.toNat (kr (x + 201).toNat)) (by omega) (by omega) (by omega)
    refine ⟨kr2, ?_, fun j g1 g2 => ?_, fun j hj => ?_⟩
    · rw [mX5_keep_21, iI_mul, if_neg (by rw [iI_le (by omega) (by omega) (by omega) (by omega)]; omega), iI_add, gdi (by omega) (by omega) (by omega), gdi h0 (by omega) (by omega), iI_ix h0 (by omega), iI_ix (by omega) (by omega), iI_add, h1]
    · by_cases q : (j : Int) = x
      · rw [h3 j (by omega), upd_in (by omega), show (x + 201).toNat = j + 201 by omega]
      · rw [h2 j (by omega) g2, upd_ne (by omega)]
    · rw [h3 j (by omega), upd_ne (by omega)]
theorem keepOf (T : TR N F G (iI N) d lb) (K : Int) (kr : Nat → Int32) (hK : 0 ≤ K) (hK2 : K ≤ 15) : ∃ kr' : Nat → Int32, mX5_keep (iI N) d lb (iI K) kr = some (iI (if 15 < K + 1 then 15 else K + 1), kr') ∧ (kr' (201 * (if 15 < K + 1 then 14 else K)).toNat = iI N ∧ ∀ i, 0 ≤ i → i < N → kr' (201 * (if 15 < K + 1 then 14 else K) + 1 + i).toNat = iI (F i) ∧ kr' (201 * (if 15 < K + 1 then 14 else K) + 101 + i).toNat = iI (G i)) ∧ (∀ j : Nat, (j : Int) < 201 * (if 15 < K + 1 then 14 else K) → kr' j = kr (if 15 < K + 1 then j + 201 else j)) := by
  have hN := T.1.nn
  unfold mX5_keep
  by_cases c : K = 15
  · obtain ⟨kr2, h1, h2, h3⟩ := keep_21 (d := d) (lb := lb) (iI N) 2814 FU 0 kr (by rw [FU_big]; omega) (by omega) (by omega)
    obtain ⟨kr', g1, g2, g3⟩ := keep_76 T 14 (by omega) (by omega) N.toNat FU 0 (upd kr2 2814 (iI N)) (by rw [FU_big]; omega) (by omega) (by omega)
    refine ⟨kr', ?_, ?_, ?_⟩
    · rw [if_pos (by rw [c]), iI_sub, c, show (15 : Int) - 1 = 14 by omega, h1, g1]
      rfl
    · rw [if_pos (by omega : 15 < K + 1)]
      refine ⟨?_, g2⟩
      rw [g3 _ (fun i q1 q2 => by omega), upd_in (by omega)]
    · intro j hj
      rw [if_pos (by omega : 15 < K + 1)] at hj
      rw [if_pos (by omega : 15 < K + 1), g3 j (fun i q1 q2 => by omega), upd_ne (by omega), h2 j (by omega) (by omega)]
  · obtain ⟨kr', g1, g2, g3⟩ := keep_76 T K hK (by omega) N.toNat FU 0 (upd kr (201 * K).toNat (iI N)) (by rw [FU_big]; omega) (by omega) (by omega)
    refine ⟨kr', ?_, ?_, ?_⟩
    · rw [if_neg (by rw [iI_eq (by omega) (by omega) (by omega) (by omega)]; exact c), iI_mul, gdi (by omega) (by omega) (by omega), iI_ix (by omega) (by omega), g1, if_neg (by omega)]
    · rw [if_neg (by omega : ¬ 15 < K + 1)]
      refine ⟨?_, g2⟩
      rw [g3 _ (fun i q1 q2 => by omega), upd_in (by omega)]
    · intro j hj
      rw [if_neg (by omega : ¬ 15 < K + 1)] at hj
      rw [if_neg (by omega : ¬ 15 < K + 1), g3 j (fun i q1 q2 => by omega), upd_ne (by omega)]
theorem HR.keep {p j p2 j2 : Int} {ct gd gl mr ct2 gd2 gl2 mr2 : Nat → Int32} (h : HR p j ct gd gl mr) (h0 : 0 ≤ p) (hj0 : 0 ≤ j) (hj2 : 0 ≤ j2) (hp : p2 = p) (e1 : ct2 p.toNat = ct p.toNat) (e2 : ∀ i, 0 ≤ i → i < 100 → gd2 (100 * p + i).toNat = gd (100 * p + i).toNat ∧ gl2 (100 * p + i).toNat = gl (100 * p + i).toNat) (e3 : ∀ o, 0 ≤ o → o < 201 → mr2 (201 * j2 + o).toNat = mr (201 * j + o).toNat) : HR p2 j2 ct2 gd2 gl2 mr2 := by
  subst hp
  obtain ⟨N, F, G, T, g1, g2, g3, g4, g5, g6⟩ := h
  have hN := T.nn
  refine ⟨N, F, G, T, by rw [e1, g1], fun i q1 q2 => by rw [(e2 i q1 (by omega)).1, g2 i q1 q2], fun i q1 q2 => by rw [(e2 i q1 (by omega)).2, g3 i q1 q2], ?_, fun i q1 q2 => ?_, fun i q1 q2 => ?_⟩
  · have := e3 0 (by omega) (by omega)
    rw [Int.add_zero, Int.add_zero] at this
    rw [this, g4]
  · have := e3 (1 + i) (by omega) (by omega)
    rw [← Int.add_assoc, ← Int.add_assoc] at this
    rw [this, g5 i q1 q2]
  · have := e3 (101 + i) (by omega) (by omega)
    rw [← Int.add_assoc, ← Int.add_assoc] at this
    rw [this, g6 i q1 q2]
/-- a tree more is kept, by both -/
theorem histOf {md ml : Nat → Int32} (T : TR N F G (iI N) d lb) (M : TR N F G (iI N) md ml) {sl kp mk : Int32} {ct gd gl mr : Nat → Int32} (H : HI sl kp ct gd gl mk mr) : ∃ (RA : Int32 × Int32 × (Nat → Int32) × (Nat → Int32) × (Nat → Int32)) (RM : Int32 × (Nat → Int32)), mX1_record (iI N) d lb sl kp ct gd gl = some RA ∧ mX5_keep (iI N) md ml mk mr = some RM ∧ HI RA.1 RA.2.1 RA.2.2.1 RA.2.2.2.1 RA.2.2.2.2 RM.1 RM.2 := by
  have hN := T.1.nn
  obtain ⟨S, K, rfl, rfl, rfl, hS, hS2, hK, hK2, h⟩ := H
  obtain ⟨gd', gl', r1, r2, r3⟩ := recordOf T S K ct gd gl hS hS2 hK hK2
  obtain ⟨kr', k1, k2, k3⟩ := keepOf M K mr hK hK2
  refine ⟨_, _, r1, k1, if 15 ≤ S + 1 then 0 else S + 1, if 15 < K + 1 then 15 else K + 1, rfl, rfl, rfl, by split <;> omega, by split <;> omega, by split <;> omega, by split <;> omega, fun j hj1 hj2 => ?_⟩
  dsimp only
  by_cases c : 15 < K + 1
  · rw [if_pos c] at hj2 k2 k3
    rw [if_pos c]
    by_cases q : j = 14
    · have sp : slotOf (if 15 ≤ S + 1 then 0 else S + 1) 15 j = S := by unfold slotOf; split <;> omega
      rw [sp, q]
      exact ⟨N, F, G, T.1, upd_in rfl, fun i q1 q2 => (r2 i q1 q2).1, fun i q1 q2 => (r2 i q1 q2).2, k2.1, fun i q1 q2 => (k2.2 i q1 q2).1, fun i q1 q2 => (k2.2 i q1 q2).2⟩
    · have o := h (j + 1) (by omega) (by omega)
      have sp : slotOf (if 15 ≤ S + 1 then 0 else S + 1) 15 j = slotOf S K (j + 1) := by unfold slotOf; split <;> omega
      have sn : slotOf S K (j + 1) ≠ S ∧ 0 ≤ slotOf S K (j + 1) := by unfold slotOf; omega
      refine o.keep sn.2 (by omega) hj1 sp (upd_ne (by omega)) (fun i q1 q2 => r3 _ (by omega)) (fun o q1 q2 => ?_)
      rw [k3 _ (by omega), if_pos c]
      congr 1
      omega
  · rw [if_neg c] at hj2 k2 k3
    rw [if_neg c]
    by_cases q : j = K
    · have sp : slotOf (if 15 ≤ S + 1 then 0 else S + 1) (K + 1) j = S := by unfold slotOf; split <;> omega
      rw [sp, q]
      exact ⟨N, F, G, T.1, upd_in rfl, fun i q1 q2 => (r2 i q1 q2).1, fun i q1 q2 => (r2 i q1 q2).2, k2.1, fun i q1 q2 => (k2.2 i q1 q2).1, fun i q1 q2 => (k2.2 i q1 q2).2⟩
    · have o := h j hj1 (by omega)
      have sp : slotOf (if 15 ≤ S + 1 then 0 else S + 1) (K + 1) j = slotOf S K j := by unfold slotOf; split <;> omega
      have sn : slotOf S K j ≠ S ∧ 0 ≤ slotOf S K j := by unfold slotOf; omega
      refine o.keep sn.2 (by omega) hj1 sp (upd_ne (by omega)) (fun i q1 q2 => r3 _ (by omega)) (fun o q1 q2 => ?_)
      rw [k3 _ (by omega), if_neg c]
theorem appendOf (x a b : Int) (h : 0 ≤ x) (h2 : x < 100) : mX3_append (iI x) d lb (iI a) (iI b) = (iI (x + 1), upd d x.toNat (iI a), upd lb x.toNat (iI b)) := by
  unfold mX3_append mX3_putNode
  rw [if_neg (by rw [iI_le (by omega) (by omega) (by omega) (by omega)]; omega), iI_add, putOf 100 _ _ _ (by omega) h (by omega), putOf 100 _ _ _ (by omega) h (by omega)]
theorem recall_63 (T : TV N F G) (sl kp : Int32) (ct gd gl : Nat → Int32) (p : Int) (hp : 0 ≤ p) (hp2 : p < 15) (hg : ∀ i, 0 ≤ i → i < N → gd (100 * p + i).toNat = iI (F i)) (hl : ∀ i, 0 ≤ i → i < N → gl (100 * p + i).toNat = iI (G i)) : ∀ (k f : Nat) (x : Int) (d lb : Nat → Int32), k < f → 0 ≤ x → x + k = N → (∀ i, 0 ≤ i → i < x → d i.toNat = iI (F i) ∧ lb i.toNat = iI (G i)) → ∃ d' lb' : Nat → Int32, mX1_recall_63 f (iI x) d lb sl kp ct gd gl (iI (100 * p)) (iI N) (iI x) = some (kp, iI N, d', lb', sl, kp) ∧ (∀ i, 0 ≤ i → i < N → d' i.toNat = iI (F i) ∧ lb' i.toNat = iI (G i)) := by
  have hN := T.nn
  intro k
  induction k with
  | zero =>
    intro f x d lb hf h0 hx hd
    obtain ⟨f, rfl⟩ : ∃ g, f = g + 1 := ⟨f - 1, by omega⟩
    refine ⟨d, lb, ?_, fun i h1 h2 => hd i h1 (by omega)⟩
    rw [mX1_recall_63, if_pos (by rw [iI_le (by omega) (by omega) (by omega) (by omega)]; omega), show x = N by omega]
  | succ k ih =>
    intro f x d lb hf h0 hx hd
    obtain ⟨f, rfl⟩ : ∃ g, f = g + 1 := ⟨f - 1, by omega⟩
    obtain ⟨d', lb', h1, h2⟩ := ih f (x + 1) (upd d x.toNat (iI (F x))) (upd lb x.toNat (iI (G x))) (by omega) (by omega) (by omega) (fun i g1 g2 => by
      by_cases q : i = x
      · rw [q, upd_in rfl, upd_in rfl]; exact ⟨rfl, rfl⟩
      · rw [upd_ne (by omega), upd_ne (by omega)]; exact hd i g1 (by omega))
    refine ⟨d', lb', ?_, h2⟩
    rw [mX1_recall_63, iI_add, getOf 1500 _ _ (by omega) (by omega) (by omega), getOf 1500 _ _ (by omega) (by omega) (by omega), hg x h0 (by omega), hl x h0 (by omega), appendOf x _ _ h0 (by omega), if_neg (by rw [iI_le (by omega) (by omega) (by omega) (by omega)]; omega), iI_add]
    exact h1
theorem undo_41 (T : TV N F G) (kp : Int32) (kr : Nat → Int32) (K : Int) (hK : 0 ≤ K) (hK2 : K ≤ 14) (hg : ∀ i, 0 ≤ i → i < N → kr (201 * K + 1 + i).toNat = iI (F i)) (hl : ∀ i, 0 ≤ i → i < N → kr (201 * K + 101 + i).toNat = iI (G i)) : ∀ (k f : Nat) (x : Int) (d lb : Nat → Int32), k < f → 0 ≤ x → x + k = N → (∀ i, 0 ≤ i → i < x → d i.toNat = iI (F i) ∧ lb i.toNat = iI (G i)) → ∃ d' lb' : Nat → Int32, mX5_undo_41 f (iI N) d lb kp kr (iI (201 * K)) (iI x) = some (kp, iI N, d', lb', kp) ∧ (∀ i, 0 ≤ i → i < N → d' i.toNat = iI (F i) ∧ lb' i.toNat = iI (G i)) := by
  have hN := T.nn
  intro k
  induction k with
  | zero =>
    intro f x d lb hf h0 hx hd
    obtain ⟨f, rfl⟩ : ∃ g, f = g + 1 := ⟨f - 1, by omega⟩
    refine ⟨d, lb, ?_, fun i h1 h2 => hd i h1 (by omega)⟩
    rw [mX5_undo_41, if_pos (by rw [iI_le (by omega) (by omega) (by omega) (by omega)]; omega)]
  | succ k ih =>
    intro f x d lb hf h0 hx hd
    obtain ⟨f, rfl⟩ : ∃ g, f = g + 1 := ⟨f - 1, by omega⟩
    have b := T.lab x h0 (by omega)
    obtain ⟨d', lb', h1, h2⟩ := ih f (x + 1) (upd d x.toNat (iI (F x))) (upd lb x.toNat (iI (G x))) (by omega) (by omega) (by omega) (fun i g1 g2 => by
      by_cases q : i = x
      · rw [q, upd_in rfl, upd_in rfl]; exact ⟨rfl, rfl⟩
      · rw [upd_ne (by omega), upd_ne (by omega)]; exact hd i g1 (by omega))
    refine ⟨d', lb', ?_, h2⟩
    rw [mX5_undo_41]
    simp only [iI_add]
    rw [gdi (by omega) (by omega) (by omega), gdi h0 (by omega) (by omega), gdi (by omega) (by omega) (by omega), gdi h0 (by omega) (by omega), iI_ix (by omega) (by omega), iI_ix (by omega) (by omega), iI_ix (by omega) (by omega), hg x h0 (by omega), hl x h0 (by omega), c16C (by omega) (by omega), narC (by omega) (by omega), if_neg (by rw [iI_le (by omega) (by omega) (by omega) (by omega)]; omega)]
    exact h1
end HIST
theorem st_undo {n : Int32} {d : Nat → Int32} {lb : Nat → Int32} {wi : Int32} {sl : Int32} {kp : Int32} {ct : Nat → Int32} {gd : Nat → Int32} {gl : Nat → Int32} {ln : Int32} {ch : Nat → Int32} {mn : Int32} {md : Nat → Int32} {ml : Nat → Int32} {mk : Int32} {mr : Nat → Int32} {mt : Int32} {mx : Nat → Int32} {mw : Int32} (I : Inv n d lb wi sl kp ct gd gl ln ch mn md ml mk mr mt mx mw)  : ∃ (RA : Int32 × Int32 × (Nat → Int32) × (Nat → Int32) × Int32 × Int32) (RM : Int32 × Int32 × (Nat → Int32) × (Nat → Int32) × Int32), mX4_undo n d lb sl kp ct gd gl = some RA ∧ mX5_undo mn md ml mk mr = some RM ∧ RA.1 = RM.1 ∧ Inv RA.2.1 RA.2.2.1 RA.2.2.2.1 wi RA.2.2.2.2.1 RA.2.2.2.2.2 ct gd gl ln ch RM.2.1 RM.2.2.1 RM.2.2.2.1 RM.2.2.2.2 mr mt mx mw := by
  obtain ⟨S, K, rfl, rfl, rfl, hS, hS2, hK, hK2, h⟩ := I.2.2.1
  unfold mX4_undo mX1_isBlank mX5_undo
  by_cases c : K = 0
  · have e : iI K = 0 := by rw [c]; rfl
    rw [if_pos e, if_neg e10, if_pos e]
    exact ⟨_, _, rfl, rfl, rfl, I⟩
  · have e : ¬ iI K = 0 := by rw [iI_zero, iI_eq (by omega) (by omega) (by omega) (by omega)]; exact c
    obtain ⟨N, F, G, T, g1, g2, g3, g4, g5, g6⟩ := h (K - 1) (by omega) (by omega)
    have hN := T.nn
    have sp : slotOf S K (K - 1) = if S ≤ 0 then 14 else S - 1 := by unfold slotOf; split <;> omega
    rw [sp] at g1 g2 g3
    obtain ⟨p, hp⟩ : ∃ p, p = (if S ≤ 0 then (14 : Int) else S - 1) := ⟨_, rfl⟩
    have hp2 : 0 ≤ p ∧ p < 15 := by rw [hp]; split <;> omega
    rw [← hp] at g1 g2 g3
    obtain ⟨d1, lb1, a1, a2⟩ := recall_63 T (iI p) (iI (K - 1)) ct gd gl p hp2.1 hp2.2 g2 g3 N.toNat FU 0 d lb (by rw [FU_big]; omega) (by omega) (by omega) (fun i q1 q2 => absurd q2 (by omega))
    obtain ⟨d2, lb2, b1, b2⟩ := undo_41 T (iI (K - 1)) mr (K - 1) (by omega) (by omega) g5 g6 N.toNat FU 0 md ml (by rw [FU_big]; omega) (by omega) (by omega) (fun i q1 q2 => absurd q2 (by omega))
    have ra : mX1_recall n d lb (iI S) (iI K) ct gd gl = some (iI (K - 1), iI N, d1, lb1, iI p, iI (K - 1)) := by
      unfold mX1_recall mX3_empty
      have em : iMax (iI K - iI 1) (iI 0) = iI (K - 1) := by
        simp only [iMax]
        simp (disch := omega) only [iI_zero, iI_len, iI_le, iI_lt, iI_eq, iI_add, iI_sub, iI_mul, Option.bind_some, iI_ite]
        rw [if_neg (by omega)]
      rw [em]
      by_cases q : S ≤ 0
      · rw [if_pos q] at hp
        rw [if_pos (by rw [iI_zero, iI_le (by omega) (by omega) (by omega) (by omega)]; exact q), getOf 15 _ _ (by omega) (by omega) (by omega), iI_mul, ← hp, show p * 100 = 100 * p by omega, g1]
        exact a1
      · rw [if_neg q] at hp
        rw [if_neg (by rw [iI_zero, iI_le (by omega) (by omega) (by omega) (by omega)]; exact q), iI_sub, getOf 15 _ _ (by omega) (by omega) (by omega), iI_mul, ← hp, show p * 100 = 100 * p by omega, g1]
        exact a1
    rw [if_neg e, if_pos e00, ra, if_neg e]
    refine ⟨_, (iI (K - 1), iI N, d2, lb2, iI (K - 1)), rfl, ?_, rfl, ?_⟩
    · rw [iI_sub, iI_mul, gdi (by omega) (by omega) (by omega), iI_ix (by omega) (by omega), g4]
      exact b1
    · refine ⟨⟨N, F, G, ⟨T, rfl, fun i q1 q2 => (a2 i q1 q2).1, fun i q1 q2 => (a2 i q1 q2).2⟩, ⟨T, rfl, fun i q1 q2 => (b2 i q1 q2).1, fun i q1 q2 => (b2 i q1 q2).2⟩⟩, I.2.1, ?_, I.2.2.2⟩
      refine ⟨p, K - 1, rfl, rfl, rfl, hp2.1, hp2.2, by omega, by omega, fun j j1 j2 => ?_⟩
      have o := h j j1 (by omega)
      have sp2 : slotOf p (K - 1) j = slotOf S K j := by rw [hp]; unfold slotOf; split <;> omega
      rw [sp2]
      exact o
