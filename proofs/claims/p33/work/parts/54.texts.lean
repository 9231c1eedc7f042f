/-! 54: what is written is read again as the same tree (the law's print and texts) -/
theorem lg_cmp_self (x : Int64) : lg_cmp x x = 0 := by simp [lg_cmp]
/-- the number that the law makes of a tree -/
def PV (F G : Int → Int) : Nat → Int64 → Int → Int64
  | 0, s, _ => s
  | k + 1, s, x => PV F G k ((((1000003 : Int64) * s) + ((31 : Int64) * (iI (F x)).toInt64)) + (iI (G x)).toInt64) (x + 1)
def Pv (N : Int) (F G : Int → Int) : Int64 := PV F G N.toNat (iI N).toInt64 0
section TEXTS
variable {N S K : Int} {F G : Int → Int} {d lb ct gd gl : Nat → Int32}
theorem print_8 (T : TR N F G (iI N) d lb) : ∀ (k f : Nat) (s : Int64) (x : Int), k < f → 0 ≤ x → x + k = N → mL_print_8 f (iI N) d lb s (iI x) = some (PV F G k s x) := by
  have hN := T.1.nn
  intro k
  induction k with
  | zero =>
    intro f s x hf hx hm
    obtain ⟨f, rfl⟩ : ∃ g, f = g + 1 := ⟨f - 1, by omega⟩
    rw [mL_print_8, PV]
    unfold mX4_size mX3_count
    rw [if_pos (show iI N ≤ iI x by rw [iI_le (by omega) (by omega) (by omega) (by omega)]; omega)]
  | succ k ih =>
    intro f s x hf hx hm
    obtain ⟨f, rfl⟩ : ∃ g, f = g + 1 := ⟨f - 1, by omega⟩
    rw [mL_print_8, PV]
    unfold mX4_size mX3_count
    rw [if_neg (show ¬ iI N ≤ iI x by rw [iI_le (by omega) (by omega) (by omega) (by omega)]; omega), nd0 T x hx (by omega), Option.bind_some, nd10 T x hx (by omega), Option.bind_some, iI_add]
    exact ih f _ (x + 1) (by omega) (by omega) (by omega)
theorem printOf (T : TR N F G (iI N) d lb) : mL_print (iI N) d lb = some (Pv N F G) := by
  have hN := T.1.nn
  unfold mL_print
  exact print_8 T N.toNat FU _ 0 (by rw [FU_big]; omega) (Int.le_refl _) (by omega)
/-- the signs q ( ) -/
def E3 : Int → Int := fun i => if i = 0 then 113 else if i = 1 then 40 else 41
theorem E3_two : Q4 E3 (fun _ => 0) (fun _ => 113) 2 1 1 ∧ lsA E3 2 = 2 := by
  have q0 : Q4 E3 (fun _ => 0) (fun _ => 113) 0 0 0 := ⟨fun j hj => absurd hj (by omega), rfl, rfl, fun y y1 y2 => absurd y2 (by omega)⟩
  obtain ⟨q1, l1⟩ := q0.letter (show ltr (113 : Int) from ⟨by omega, by omega⟩) (by omega) (Or.inl rfl) rfl rfl
  exact q1.open_ rfl l1
theorem E3_three : ¬ alA E3 2 := by
  have l := E3_two.2
  have e : E3 ((2 : Nat) : Int) = 41 := rfl
  unfold alA
  rw [e, l]
  omega
theorem texts_115 (T : TR N F G (iI N) d lb) (E : Int → Int) (ch : Nat → Int32) (L : Nat) (h : TX L E ch) (hL : L ≤ 299) (h0 : 0 < L) (hal : ∀ j, j < L → alA E j) (hd : dpA E L = 0) (sl kp : Int32) (y : Int) : ∃ (ln' : Int32) (ch' : Nat → Int32), mL_texts_115 (iI N) d lb sl kp ct gd gl (iI L) ch (iI L) (Pv N F G) (iI y) (iI y) = some (iI 1, iI N, d, lb, sl, kp, ct, gd, gl, ln', ch') := by
  obtain ⟨ch1, t1, u1⟩ := typeOf h (by omega) 98 (by omega) (by omega)
  have x1 := u1 (fun i => if i = (L : Int) then 98 else E i) (fun i i1 i2 => by rw [if_neg (by omega)]) (by rw [if_pos rfl])
  have cg : ∀ j : Nat, j < L → (fun i : Int => if i = (L : Int) then 98 else E i) j = E j := fun j hj => by dsimp only; rw [if_neg (by omega)]
  have al1 : ∀ j, j < L → alA (fun i => if i = (L : Int) then 98 else E i) j := fun j hj => (alA_cong (E := fun i : Int => if i = (L : Int) then 98 else E i) (E' := E) j (fun i hi => cg i (by omega))).mpr (hal j hj)
  have ac := al_cong (E := fun i : Int => if i = (L : Int) then 98 else E i) (E' := E) L cg
  have na1 : ¬ alA (fun i => if i = (L : Int) then 98 else E i) L := by
    intro q
    have e : (fun i : Int => if i = (L : Int) then 98 else E i) (L : Int) = 98 := by dsimp only; rw [if_pos rfl]
    unfold alA at q
    rw [e, ac.2.1, hd] at q
    omega
  have f1 : mX2_findFault (iI ((L : Int) + 1)) ch1 = some (iI L) := by
    have := ffBad ch1 (L + 1) L (by rw [show ((L + 1 : Nat) : Int) = (L : Int) + 1 by omega]; exact x1) al1 (by omega) na1
    rw [show ((L + 1 : Nat) : Int) = (L : Int) + 1 by omega] at this
    exact this
  have f2 : mX2_findFault (iI 0) ch1 = some (iI 0) := by
    have := ffAll (E := E3) ch1 0 ⟨by omega, by omega, fun i i1 i2 => absurd i2 (by omega)⟩ (fun j hj => absurd hj (by omega))
    rw [if_neg (by omega)] at this
    exact this
  have z0 : TX 0 E3 ch1 := ⟨by omega, by omega, fun i i1 i2 => absurd i2 (by omega)⟩
  obtain ⟨ch2, t2, u2⟩ := typeOf z0 (by omega) 113 (by omega) (by omega)
  have x2 := u2 E3 (fun i i1 i2 => rfl) rfl
  obtain ⟨ch3, t3, u3⟩ := typeOf x2 (by omega) 40 (by omega) (by omega)
  have x3 := u3 E3 (fun i i1 i2 => rfl) rfl
  obtain ⟨ch4, t4, u4⟩ := typeOf x3 (by omega) 41 (by omega) (by omega)
  have x4 := u4 E3 (fun i i1 i2 => rfl) rfl
  have f3 : mX2_findFault (iI (0 + 1 + 1)) ch3 = some (iI 2) := by
    have := ffAll (E := E3) ch3 2 x3 E3_two.1.1
    rw [E3_two.1.2.2.1, if_neg (by omega)] at this
    exact this
  have f4 : mX2_findFault (iI (0 + 1 + 1 + 1)) ch4 = some (iI 2) := ffBad (E := E3) ch4 3 2 x4 E3_two.1.1 (by omega) E3_three
  have cl : mX4_clearText (iI ((L : Int) + 1)) = (iI ((L : Int) + 1), iI 0) := rfl
  refine ⟨iI (0 + 1 + 1 + 1), ch4, ?_⟩
  unfold mL_texts_115
  rw [if_pos rfl, printOf T, Option.bind_some, lg_cmp_self, if_pos rfl]
  simp only [t1, cl, t2, t3, t4]
  rw [readFault (iI N) d lb sl kp ct gd gl ch1 _ L (by omega) (by omega) f1, Option.bind_some]
  dsimp only
  rw [iI_sub, if_pos rfl, readFault (iI N) d lb sl kp ct gd gl ch1 _ 0 (by omega) (by omega) f2, Option.bind_some]
  dsimp only
  rw [if_pos (congrArg iI (show (-100 : Int) - 0 = -100 by omega)), readFault (iI N) d lb sl kp ct gd gl ch3 _ 2 (by omega) (by omega) f3, Option.bind_some]
  dsimp only
  rw [if_pos (congrArg iI (show (-100 : Int) - 2 = -102 by omega)), if_neg e10, if_neg e10, if_neg e10, readFault (iI N) d lb sl kp ct gd gl ch4 _ 2 (by omega) (by omega) f4, Option.bind_some]
  dsimp only
  rw [if_pos (congrArg iI (show (-100 : Int) - 2 = -102 by omega)), printOf T, Option.bind_some, lg_cmp_self, if_pos rfl]
theorem texts_57 (T : TR N F G (iI N) d lb) (H : HI S K ct gd gl) (hN9 : N ≤ 99) : ∀ (m f : Nat) (k : Int) (ch : Nat → Int32), m < f → 0 ≤ k → k + m = Ps F N.toNat → TX k (Ew F G N) ch → ∃ (S' : Int) (d' lb' ct' gd' gl' : Nat → Int32) (ln' : Int32) (ch' : Nat → Int32), mL_texts_57 f (iI N) d lb (iI S) (iI K) ct gd gl (iI k) ch (iI K) (iI (Ps F N.toNat)) (Pv N F G) (iI N) (iI k) = some (iI 1, iI N, d', lb', iI S', iI (up15 K - 1), ct', gd', gl', ln', ch') ∧ TR N F G (iI N) d' lb' ∧ HI S' (up15 K - 1) ct' gd' gl' := by
  have hN := T.1.nn
  have pb := T.1.psBd N.toNat (by omega)
  have ps := T.1.ps N.toNat
  have oN := T.1.out N (Or.inr (Int.le_refl _))
  have eN : ((N.toNat : Nat) : Int) = N := by omega
  rw [eN] at pb ps
  have q4 := T.1.q4 N.toNat (by omega)
  rw [eN, oN] at q4
  intro m
  induction m with
  | zero =>
    intro f k ch hf hk hm hx
    obtain ⟨f, rfl⟩ : ∃ g, f = g + 1 := ⟨f - 1, by omega⟩
    have e : k = Ps F N.toNat := by omega
    subst e
    have eL : (((Ps F N.toNat).toNat : Nat) : Int) = Ps F N.toNat := by omega
    have hx2 : TX ((Ps F N.toNat).toNat : Nat) (Ew F G N) ch := by rw [eL]; exact hx
    obtain ⟨S', d', lb', ct', gd', gl', r1, r2, r3, r4⟩ := readOf T H ch (Ps F N.toNat).toNat hx2 q4.1 (by omega) q4.2.2.1
    rw [q4.2.1, eL] at r1
    rw [q4.2.1] at r2
    have T2 : TR N F G (iI N) d' lb' := ⟨T.1, rfl, fun i i1 i2 => by rw [(r2 i i1 i2).1, (q4.2.2.2 i i1 i2).1], fun i i1 i2 => by rw [(r2 i i1 i2).2, (q4.2.2.2 i i1 i2).2]⟩
    have ku : 0 < up15 K := by unfold up15; have := H.2.2.1; split <;> omega
    obtain ⟨S2, d2, lb2, w1, w2, w3⟩ := undoOf (iI N) d' lb' r3 ku r4
    obtain ⟨ln', ch', z1⟩ := texts_115 (ct := ct') (gd := gd') (gl := gl') w2 (Ew F G N) ch (Ps F N.toNat).toNat hx2 (by omega) (by omega) q4.1 q4.2.2.1 (iI S2) (iI (up15 K - 1)) (up15 K - 1)
    rw [eL] at z1
    refine ⟨S2, d2, lb2, ct', gd', gl', ln', ch', ?_, w2, w3⟩
    rw [mL_texts_57, if_pos (show iI (Ps F N.toNat) ≤ iI (Ps F N.toNat) by rw [iI_le (by omega) (by omega) (by omega) (by omega)]; omega), r1, Option.bind_some]
    dsimp only
    rw [if_pos rfl, printOf T2, Option.bind_some, lg_cmp_self, if_pos rfl, w1, Option.bind_some]
    dsimp only
    have k1 := H.2.2.1
    have k2 := H.2.2.2.1
    by_cases c : K < 15
    · have ue : up15 K - 1 = K := by unfold up15; rw [if_pos c]; omega
      rw [if_neg (show ¬ iI 15 ≤ iI K by rw [iI_le (by omega) (by omega) (by omega) (by omega)]; omega)]
      rw [ue] at z1 ⊢
      exact z1
    · have ue : up15 K - 1 = 14 := by unfold up15; rw [if_neg c]; omega
      rw [if_pos (show iI 15 ≤ iI K by rw [iI_le (by omega) (by omega) (by omega) (by omega)]; omega)]
      rw [ue] at z1 ⊢
      exact z1
  | succ m ih =>
    intro f k ch hf hk hm hx
    obtain ⟨f, rfl⟩ : ∃ g, f = g + 1 := ⟨f - 1, by omega⟩
    have eb := T.1.ewBd k hk (by omega)
    obtain ⟨ch1, t1, u1⟩ := typeOf hx (by omega) (Ew F G N k) eb.1 eb.2
    have x1 := u1 (Ew F G N) (fun i i1 i2 => rfl) rfl
    obtain ⟨S', d', lb', ct', gd', gl', ln', ch', r⟩ := ih f (k + 1) ch1 (by omega) (by omega) (by omega) x1
    refine ⟨S', d', lb', ct', gd', gl', ln', ch', ?_, r.2⟩
    rw [mL_texts_57, if_neg (show ¬ iI (Ps F N.toNat) ≤ iI k by rw [iI_le (by omega) (by omega) (by omega) (by omega)]; omega), wrAt T k hk (by omega), Option.bind_some, show Wa F G k N.toNat 0 0 = Ew F G N k from rfl, c16C eb.1 eb.2]
    simp only [t1]
    rw [iI_add]
    exact r.1
theorem texts_ok (T : TR N F G (iI N) d lb) (H : HI S K ct gd gl) (hN9 : N ≤ 99) (ln : Int32) (ch : Nat → Int32) : ∃ (S' : Int) (d' lb' ct' gd' gl' : Nat → Int32) (ln' : Int32) (ch' : Nat → Int32), mL_texts (iI N) d lb (iI S) (iI K) ct gd gl ln ch (iI K) = some (iI 1, iI N, d', lb', iI S', iI (up15 K - 1), ct', gd', gl', ln', ch') ∧ TR N F G (iI N) d' lb' ∧ HI S' (up15 K - 1) ct' gd' gl' := by
  have hN := T.1.nn
  have pb := T.1.psBd N.toNat (by omega)
  have ps := T.1.ps N.toNat
  have oN := T.1.out N (Or.inr (Int.le_refl _))
  have eN : ((N.toNat : Nat) : Int) = N := by omega
  rw [eN] at pb ps
  have wl : Wl F N.toNat 0 = Ps F N.toNat := by
    have := Wl_ps F N.toNat 0
    rw [Nat.zero_add] at this
    have z : Ps F 0 = 0 := rfl
    rw [z, Int.zero_add] at this
    exact this
  have we : Wa F G (Ps F N.toNat) N.toNat 0 0 = -5 := by
    have := T.1.waEnd (Ps F N.toNat) N.toNat 0 (by rw [Nat.zero_add]; exact Int.le_refl _)
    exact this
  obtain ⟨S', d', lb', ct', gd', gl', ln', ch', r1, r2⟩ := texts_57 T H hN9 (Ps F N.toNat).toNat FU 0 ch (by rw [FU_big]; omega) (Int.le_refl _) (by omega) ⟨by omega, by omega, fun i i1 i2 => absurd i2 (by omega)⟩
  refine ⟨S', d', lb', ct', gd', gl', ln', ch', ?_, r2⟩
  have cl : (mX4_clearText ln).2 = iI 0 := rfl
  unfold mL_texts mX4_size mX3_count
  rw [wrLen T, wl, Option.bind_some, printOf T, Option.bind_some, wrAt T _ (by omega) (by omega), we, Option.bind_some, if_pos rfl, wrBad, Option.bind_some, if_pos rfl, if_pos (show iI (Ps F N.toNat) ≤ iI 299 by rw [iI_le (by omega) (by omega) (by omega) (by omega)]; omega), cl]
  exact r1
end TEXTS
