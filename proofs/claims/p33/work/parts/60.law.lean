/-! 60: the law's loops come to their end -/
section LAW
theorem setWidthOf (w u : Int) (h : 4 ≤ u) (h2 : u ≤ 32) : mX4_setWidth (iI w) (iI u) = (iI w, iI u) := by
  unfold mX4_setWidth mX0_changeWidth
  rw [if_neg (show ¬ iI u < iI 4 by rw [iI_lt (by omega) (by omega) (by omega) (by omega)]; omega), if_pos (show iI u ≤ iI 32 by rw [iI_le (by omega) (by omega) (by omega) (by omega)]; omega)]
theorem cellOf (L : Nat) (xs : Nat → Int32) (hL : L ≤ 260) (k : Int) (h : 0 ≤ k) (h2 : k < 1000) : ∃ r, mL_cell L xs (iI k) = some r := by
  unfold mL_cell
  rw [iI_len]
  by_cases c : iI L ≤ iI k
  · rw [if_pos c]; exact ⟨_, rfl⟩
  · rw [if_neg c]
    rw [iI_le (by omega) (by omega) (by omega) (by omega)] at c
    rw [if_pos (by rw [iI_inb (by omega) (by omega)]; omega)]
    exact ⟨_, rfl⟩
variable {sL : Nat} {sX : Nat → Int32}
theorem law_286 (xd xl : Nat → Int32) (wi : Int32) (ct gd gl : Nat → Int32) (ln : Int32) (ch : Nat → Int32) : ∀ (m f : Nat) (N S K : Int) (F G : Int → Int) (d lb : Nat → Int32), m < f → K = m → TR N F G (iI N) d lb → HI S K ct gd gl → mL_law_286 sL sX f (iI N) d lb xd xl wi (iI S) (iI K) ct gd gl ln ch (iI K) = some () := by
  intro m
  induction m with
  | zero =>
    intro f N S K F G d lb hf hK T H
    obtain ⟨f, rfl⟩ : ∃ g, f = g + 1 := ⟨f - 1, by omega⟩
    have k0 : K = 0 := by omega
    subst k0
    obtain ⟨r, hr⟩ := errors_ok (xd := xd) (xl := xl) T H wi
    rw [mL_law_286, if_pos (by decide), undoNone, Option.bind_some]
    dsimp only
    rw [if_pos rfl, hr, Option.bind_some, if_neg e10]
  | succ m ih =>
    intro f N S K F G d lb hf hK T H
    obtain ⟨f, rfl⟩ : ∃ g, f = g + 1 := ⟨f - 1, by omega⟩
    have kb := H.2.2.2.1
    obtain ⟨N', F', G', S', d', lb', u1, u2, u3⟩ := undoAny (iI N) d lb H (by omega)
    rw [mL_law_286, if_neg (show ¬ iI K ≤ 0 by rw [iI_zero, iI_le (by omega) (by omega) (by omega) (by omega)]; omega), u1, Option.bind_some]
    dsimp only
    rw [iI_add, show K + -1 = K - 1 by omega, if_pos rfl]
    exact ih f N' S' (K - 1) F' G' d' lb' (by omega) (by omega) u2 u3
/-- what the rest of the loop needs -/
def Rest (sL : Nat) (sX : Nat → Int32) (f : Nat) (e : Int) : Prop := ∀ (N S K w : Int) (F G : Int → Int) (d lb xd xl ct gd gl : Nat → Int32) (ln : Int32) (ch : Nat → Int32), TR N F G (iI N) d lb → HI S K ct gd gl → 4 ≤ w → w ≤ 32 → N ≤ e + 1 → mL_law_66 sL sX f (iI N) d lb xd xl (iI w) (iI S) (iI K) ct gd gl ln ch (iI w) (iI K) (iI e) = some ()
theorem law_119 (f : Nat) (e : Int) (he : 0 ≤ e) (he2 : e < 40) (R : Rest sL sX f (e + 1)) (N S K w : Int) (F G : Int → Int) (d lb xd xl ct gd gl : Nat → Int32) (ln : Int32) (ch : Nat → Int32) (T : TR N F G (iI N) d lb) (H : HI S K ct gd gl) (hw : 4 ≤ w) (hw2 : w ≤ 32) (hN : N ≤ e + 1) (g h : Int32) (sort : Int) (s0 : 0 ≤ sort) (s6 : sort < 7) : mL_law_119 sL sX (mL_law_66 sL sX f) (iI N) d lb xd xl (iI w) (iI S) (iI K) ct gd gl ln ch (iI w) (iI K) (iI e) g h (iI sort) = some () := by
  obtain ⟨N2, S2, K2, F2, G2, d2, lb2, xd2, xl2, ct2, gd2, gl2, r1, T2, H2, n2⟩ := edits_ok (xd := xd) (xl := xl) T H (by omega) sort s0 s6 g h
  have hN2 := T2.1.nn
  have k2 := H2.2.2.1
  have k3 := H2.2.2.2.1
  obtain ⟨v, a1, v1, v2⟩ := lowOf (h >>> ((iI 6) &&& 31)) N2 hN2.1 (by omega)
  obtain ⟨u, a2, u1, u2⟩ := lowOf (h >>> ((iI 13) &&& 31)) N2 hN2.1 (by omega)
  obtain ⟨z, a3, z1, z2⟩ := lowOf (g >>> ((iI 9) &&& 31)) 29 (by omega) (by omega)
  unfold mL_law_119 mX4_size mX3_count
  rw [r1, Option.bind_some]
  dsimp only
  rw [if_pos (show 0 ≤ iI K2 by rw [iI_zero, iI_le (by omega) (by omega) (by omega) (by omega)]; exact k2), a1, Option.bind_some, a2, Option.bind_some, node_ok T2 v v1 v2, Option.bind_some, if_neg e10, node_ok T2 u u1 u2, Option.bind_some, if_neg e10, two_ok T2 v u v1 v2 u1 u2, Option.bind_some, if_neg e10, labels_ok T2 v u v1 v2 u1 u2, Option.bind_some, if_neg e10, if_pos (by decide), iI_div he (by omega) (by omega) (by omega), iI_mul, iI_sub]
  by_cases q : e - e / 4 * 4 = 3
  · obtain ⟨S3, d3, lb3, ct3, gd3, gl3, ln3, ch3, t1, T3, H3⟩ := texts_ok T2 H2 (by omega) ln ch
    have go : ∀ y : Int, y = up15 K2 - 1 → mL_law_279 sL sX (mL_law_66 sL sX f) (iI N2) d3 lb3 xd2 xl2 (iI (4 + z)) (iI S3) (iI (up15 K2 - 1)) ct3 gd3 gl3 ln3 ch3 (iI (4 + z)) (iI e) (iI y) = some () := by
      intro y hy
      unfold mL_law_279 mL_law_280
      rw [iI_add, hy]
      exact R N2 S3 (up15 K2 - 1) (4 + z) F2 G2 d3 lb3 xd2 xl2 ct3 gd3 gl3 ln3 ch3 T3 H3 (by omega) (by omega) (by omega)
    rw [if_pos (congrArg iI q), a3, Option.bind_some, iI_add, setWidthOf w (4 + z) (by omega) (by omega)]
    dsimp only
    rw [if_pos rfl, Option.bind_some, iI_add, blocks_ok T2 (4 + z) (by omega) (by omega), Option.bind_some, if_neg e10, t1, Option.bind_some]
    dsimp only
    rw [if_neg e10]
    by_cases c : K2 < 15
    · rw [if_neg (show ¬ iI 15 ≤ iI K2 by rw [iI_le (by omega) (by omega) (by omega) (by omega)]; omega)]
      exact go K2 (by unfold up15; rw [if_pos c]; omega)
    · rw [if_pos (show iI 15 ≤ iI K2 by rw [iI_le (by omega) (by omega) (by omega) (by omega)]; omega)]
      exact go 14 (by unfold up15; rw [if_neg c]; omega)
  · rw [if_neg (show ¬ iI (e - e / 4 * 4) = iI 3 by rw [iI_eq (by omega) (by omega) (by omega) (by omega)]; exact q)]
    unfold mL_law_280
    rw [iI_add]
    exact R N2 S2 K2 w F2 G2 d2 lb2 xd2 xl2 ct2 gd2 gl2 ln ch T2 H2 hw hw2 (by omega)
theorem law_66 (hL : sL ≤ 260) : ∀ (m f : Nat) (e : Int), m < f → 0 ≤ e → e + m = 40 → Rest sL sX f e := by
  intro m
  induction m with
  | zero =>
    intro f e hf he hm N S K w F G d lb xd xl ct gd gl ln ch T H hw hw2 hN
    obtain ⟨f, rfl⟩ : ∃ g, f = g + 1 := ⟨f - 1, by omega⟩
    have kb := H.2.2.2.1
    have ka := H.2.2.1
    rw [mL_law_66, if_pos (show iI 40 ≤ iI e by rw [iI_le (by omega) (by omega) (by omega) (by omega)]; omega)]
    exact law_286 xd xl (iI w) ct gd gl ln ch K.toNat FU N S K F G d lb (by rw [FU_big]; omega) (by omega) T H
  | succ m ih =>
    intro f e hf he hm N S K w F G d lb xd xl ct gd gl ln ch T H hw hw2 hN
    obtain ⟨f, rfl⟩ : ∃ g, f = g + 1 := ⟨f - 1, by omega⟩
    have R := ih f (e + 1) (by omega) (by omega) (by omega)
    obtain ⟨g, hg⟩ := cellOf sL sX hL (2 * e) (by omega) (by omega)
    obtain ⟨h, hh⟩ := cellOf sL sX hL (2 * e + 1) (by omega) (by omega)
    rw [mL_law_66, if_neg (show ¬ iI 40 ≤ iI e by rw [iI_le (by omega) (by omega) (by omega) (by omega)]; omega), iI_mul, hg, Option.bind_some, iI_add, hh, Option.bind_some]
    by_cases c : 14 ≤ e
    · obtain ⟨z, a1, z1, z2⟩ := lowOf g 7 (by omega) (by omega)
      rw [if_pos (show iI 14 ≤ iI e by rw [iI_le (by omega) (by omega) (by omega) (by omega)]; exact c), a1, Option.bind_some]
      exact law_119 f e he (by omega) R N S K w F G d lb xd xl ct gd gl ln ch T H hw hw2 hN g h z z1 z2
    · obtain ⟨z, a1, z1, z2⟩ := lowOf g 3 (by omega) (by omega)
      rw [if_neg (show ¬ iI 14 ≤ iI e by rw [iI_le (by omega) (by omega) (by omega) (by omega)]; exact c), a1, Option.bind_some]
      exact law_119 f e he (by omega) R N S K w F G d lb xd xl ct gd gl ln ch T H hw hw2 hN g h z z1 (by omega)
theorem law_init (hL : sL ≤ 260) : mL_law sL sX (iI 1) (fun _ => 0) (mX4_put 100 (fun _ => 0) (iI 0) (iI 97)) (fun _ => 0) (fun _ => 0) (iI 8) 0 0 (fun _ => 0) (fun _ => 0) (fun _ => 0) 0 (fun _ => 0) = some () := by
  have tv : TV 1 (fun _ => 0) (fun _ => 97) := ⟨by omega, by omega, rfl, fun i h1 h2 => absurd h2 (by omega), fun i _ => rfl, fun i _ _ => by show (97 : Int) ≤ 97 ∧ (97 : Int) ≤ 122; omega⟩
  have p : mX4_put 100 (fun _ => 0) (iI 0) (iI 97) = upd (fun _ => 0) (0 : Int).toNat (iI 97) := putOf 100 _ 0 _ (by omega) (by omega) (by omega)
  have T : TR 1 (fun _ => 0) (fun _ => 97) (iI 1) (fun _ => 0) (mX4_put 100 (fun _ => 0) (iI 0) (iI 97)) := ⟨tv, rfl, fun i h1 h2 => rfl, fun i h1 h2 => by rw [p, upd_in (by omega)]⟩
  have H : HI 0 0 (fun _ => 0) (fun _ => 0) (fun _ => 0) := ⟨by omega, by omega, by omega, by omega, fun j h1 h2 => absurd h2 (by omega)⟩
  have z : (0 : Int32) = iI 0 := rfl
  have wl : Wl (fun _ => 0) (1 : Int).toNat 0 = 1 := by
    have e : (1 : Int).toNat = 0 + 1 := rfl
    rw [e, Wl, Wl]
    simp [Sg, Lf]
  have key : mL_law sL sX (iI 1) (fun _ => 0) (mX4_put 100 (fun _ => 0) (iI 0) (iI 97)) (fun _ => 0) (fun _ => 0) (iI 8) (iI 0) (iI 0) (fun _ => 0) (fun _ => 0) (fun _ => 0) (iI 0) (fun _ => 0) = some () := by
    unfold mL_law mX4_size mX3_count
    rw [if_pos rfl, nd10 T 0 (by omega) (by omega), Option.bind_some, if_pos rfl, undoNone, Option.bind_some]
    dsimp only
    rw [if_pos rfl, wrLen T, wl, Option.bind_some, if_pos rfl, removeRoot T, Option.bind_some]
    dsimp only
    rw [if_pos rfl]
    exact law_66 hL 40 FU 0 (by rw [FU_big]; omega) (by omega) (by omega) 1 0 0 8 (fun _ => 0) (fun _ => 97) (fun _ => 0) _ (fun _ => 0) (fun _ => 0) (fun _ => 0) (fun _ => 0) (fun _ => 0) (iI 0) (fun _ => 0) T H (by omega) (by omega) (by omega)
  exact key
end LAW
