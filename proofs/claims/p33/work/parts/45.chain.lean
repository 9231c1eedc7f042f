/-! 45: counting and finding again; the children of a node one by one -/
theorem cnt_add (p : Int → Bool) : ∀ (a b : Nat) (x : Int), cnt p (a + b) x = cnt p a x + cnt p b (x + a)
  | 0, b, x => by rw [Nat.zero_add, cnt]; simp
  | a + 1, b, x => by
    rw [show a + 1 + b = (a + b) + 1 by omega, cnt, cnt, cnt_add p a b (x + 1), show x + 1 + (a : Int) = x + ((a + 1 : Nat) : Int) by omega]
    omega
theorem cnt_zero {p : Int → Bool} : ∀ (k : Nat) (x : Int), (∀ y, x ≤ y → y < x + k → p y = false) → cnt p k x = 0
  | 0, _, _ => rfl
  | k + 1, x, h => by
    have a := h x (by omega) (by omega)
    rw [cnt_no (by rw [a]; simp), cnt_zero k (x + 1) (fun y h1 h2 => h y (by omega) (by omega))]
/-- the same, between two places -/
theorem cnt_mid (p : Int → Bool) (x y z : Int) (h : x ≤ y) (h2 : y ≤ z) : cnt p (z - x).toNat x = cnt p (y - x).toNat x + cnt p (z - y).toNat y := by
  have := cnt_add p (y - x).toNat (z - y).toNat x
  rw [show (y - x).toNat + (z - y).toNat = (z - x).toNat by omega, show x + ((y - x).toNat : Int) = y by omega] at this
  exact this
theorem cnt_one {p : Int → Bool} {x : Int} (h : p x = true) : cnt p (x + 1 - x).toNat x = 1 := by
  rw [show (x + 1 - x).toNat = 0 + 1 by omega, cnt_yes h, cnt]
  rfl
theorem cnt_oneNo {p : Int → Bool} {x : Int} (h : ¬ p x = true) : cnt p (x + 1 - x).toNat x = 0 := by
  rw [show (x + 1 - x).toNat = 0 + 1 by omega, cnt_no h, cnt]
/-- shifted by a -/
theorem cnt_shift (p q : Int → Bool) (a : Int) : ∀ (k : Nat) (x : Int), (∀ y, x ≤ y → y < x + k → p y = q (y + a)) → cnt p k x = cnt q k (x + a)
  | 0, _, _ => rfl
  | k + 1, x, h => by
    rw [cnt, cnt, h x (by omega) (by omega), cnt_shift p q a k (x + 1) (fun y h1 h2 => h y (by omega) (by omega)), show x + 1 + a = x + a + 1 by omega]
theorem kth_full (p : Int → Bool) (e : Int) : ∀ (k : Nat) (x j : Int), 0 ≤ j → j < cnt p k x → x ≤ kth p e k x j ∧ kth p e k x j < x + k ∧ p (kth p e k x j) = true ∧ cnt p (kth p e k x j - x).toNat x = j
  | 0, x, j, h, g => absurd g (by simp [cnt]; omega)
  | k + 1, x, j, h, g => by
    by_cases c : p x = true
    · rw [cnt_yes c] at g
      by_cases d : j = 0
      · rw [kth_here c d]
        refine ⟨Int.le_refl _, by omega, c, ?_⟩
        rw [show (x - x).toNat = 0 by omega, cnt, d]
      · rw [kth_yes c d]
        obtain ⟨a1, a2, a3, a4⟩ := kth_full p e k (x + 1) (j - 1) (by omega) (by omega)
        refine ⟨by omega, by omega, a3, ?_⟩
        rw [show (kth p e k (x + 1) (j - 1) - x).toNat = (kth p e k (x + 1) (j - 1) - (x + 1)).toNat + 1 by omega, cnt_yes c, a4]
        omega
    · rw [cnt_no c] at g
      rw [kth_no c]
      obtain ⟨a1, a2, a3, a4⟩ := kth_full p e k (x + 1) j h g
      refine ⟨by omega, by omega, a3, ?_⟩
      rw [show (kth p e k (x + 1) j - x).toNat = (kth p e k (x + 1) j - (x + 1)).toNat + 1 by omega, cnt_no c, a4]
theorem kth_at (p : Int → Bool) (e : Int) : ∀ (m k : Nat) (x y : Int), y = x + m → m < k → p y = true → kth p e k x (cnt p m x) = y
  | 0, k, x, y, h, hk, hp => by
    obtain ⟨k, rfl⟩ : ∃ g, k = g + 1 := ⟨k - 1, by omega⟩
    have : y = x := by omega
    rw [cnt, kth_here (by rw [← this]; exact hp) rfl, this]
  | m + 1, k, x, y, h, hk, hp => by
    obtain ⟨k, rfl⟩ : ∃ g, k = g + 1 := ⟨k - 1, by omega⟩
    have r := kth_at p e m k (x + 1) y (by omega) (by omega) hp
    by_cases c : p x = true
    · have b := cnt_bd p m (x + 1)
      rw [cnt_yes c, kth_yes c (by omega), show 1 + cnt p m (x + 1) - 1 = cnt p m (x + 1) by omega]
      exact r
    · rw [cnt_no c, kth_no c]
      exact r
theorem kth_past (p : Int → Bool) (e : Int) (k : Nat) (x j : Int) (h : cnt p k x ≤ j) : kth p e k x j = e := (kth_cnt p e k x j (by have := cnt_bd p k x; omega)).2 h
section CHAIN
variable {N : Int} {F G : Int → Int}
theorem TV.enIn (T : TV N F G) (v x : Int) (h : 0 ≤ v) (h2 : v < N) (h3 : v < x) (h4 : x < En F N v) : En F N x ≤ En F N v := by
  have e := T.en v h h2
  have ex := T.en x (by omega) (by omega)
  by_cases q : En F N v < En F N x
  · have := ex.2.2.1 (En F N v) h4 q
    have := e.2.2.1 x h3 h4
    have := e.2.2.2
    omega
  · omega
theorem TV.en0 (T : TV N F G) : En F N 0 = N := by
  have n := T.nn
  have e := T.en 0 (by omega) (by omega)
  by_cases q : En F N 0 < N
  · have := T.pos (En F N 0) (by omega) q
    have := T.2.2.1
    omega
  · omega
/-- the first place behind a node that has something below it is a child -/
theorem TV.first (T : TV N F G) (v : Int) (h : 0 ≤ v) (h2 : v < N) (h3 : v + 1 < En F N v) : F (v + 1) = F v + 1 := by
  have e := T.en v h h2
  have := e.2.2.1 (v + 1) (by omega) h3
  have := T.up v h
  omega
theorem TV.sp0 (T : TV N F G) (v : Int) (h : 0 ≤ v) (h2 : v < N) : Sp F N v 0 = v + 1 := by
  have e := T.en v h h2
  unfold Sp
  by_cases q : v + 1 < En F N v
  · have f := T.first v h h2 q
    exact kth_at (Ch F v) (En F N v) 0 (En F N v - v - 1).toNat (v + 1) (v + 1) (by omega) (by omega) (by simpa [Ch] using f)
  · rw [show (En F N v - v - 1).toNat = 0 by omega, kth]
    omega
theorem TV.spEnd (T : TV N F G) (v k : Int) (h : Cc F N v ≤ k) : Sp F N v k = En F N v := kth_past _ _ _ _ _ h
/-- the k-th child -/
theorem TV.spIn (T : TV N F G) (v k : Int) (h : 0 ≤ v) (h2 : v < N) (hk : 0 ≤ k) (hk2 : k < Cc F N v) : v < Sp F N v k ∧ Sp F N v k < En F N v ∧ F (Sp F N v k) = F v + 1 ∧ cnt (Ch F v) (Sp F N v k - (v + 1)).toNat (v + 1) = k := by
  have e := T.en v h h2
  obtain ⟨a1, a2, a3, a4⟩ := kth_full (Ch F v) (En F N v) (En F N v - v - 1).toNat (v + 1) k hk hk2
  have s : Sp F N v k = kth (Ch F v) (En F N v) (En F N v - v - 1).toNat (v + 1) k := rfl
  rw [← s] at a1 a2 a3 a4
  refine ⟨by omega, by omega, by simpa [Ch] using a3, a4⟩
theorem TV.spAt (T : TV N F G) (v y : Int) (h : 0 ≤ v) (h2 : v < N) (h3 : v < y) (h4 : y < En F N v) (hf : F y = F v + 1) : Sp F N v (cnt (Ch F v) (y - (v + 1)).toNat (v + 1)) = y := by
  have e := T.en v h h2
  exact kth_at (Ch F v) (En F N v) (y - (v + 1)).toNat (En F N v - v - 1).toNat (v + 1) y (by omega) (by omega) (by simpa [Ch] using hf)
theorem TV.ccCnt (T : TV N F G) (v y : Int) (h : 0 ≤ v) (h2 : v < N) (h3 : v < y) (h4 : y ≤ En F N v) : Cc F N v = cnt (Ch F v) (y - (v + 1)).toNat (v + 1) + cnt (Ch F v) (En F N v - y).toNat y := by
  have := cnt_mid (Ch F v) (v + 1) y (En F N v) (by omega) h4
  unfold Cc
  rw [show En F N v - v - 1 = En F N v - (v + 1) by omega]
  exact this
/-- the k-th child's subtree ends where the next child stands -/
theorem TV.spNext (T : TV N F G) (v k : Int) (h : 0 ≤ v) (h2 : v < N) (hk : 0 ≤ k) (hk2 : k < Cc F N v) : En F N (Sp F N v k) = Sp F N v (k + 1) := by
  have e := T.en v h h2
  obtain ⟨s1, s2, s3, s4⟩ := T.spIn v k h h2 hk hk2
  have es := T.en (Sp F N v k) (by omega) (by omega)
  have ei := T.enIn v (Sp F N v k) h h2 s1 s2
  generalize hc : Sp F N v k = c at s1 s2 s3 s4 es ei ⊢
  have cc : cnt (Ch F v) (En F N c - (v + 1)).toNat (v + 1) = k + 1 := by
    rw [cnt_mid (Ch F v) (v + 1) c (En F N c) (by omega) (by omega), s4, cnt_mid (Ch F v) c (c + 1) (En F N c) (by omega) (by omega), cnt_one (by simpa [Ch] using s3), cnt_zero (p := Ch F v) (En F N c - (c + 1)).toNat (c + 1) (fun y g1 g2 => by
      have := es.2.2.1 y (by omega) (by omega)
      simp only [Ch, decide_eq_false_iff_not]
      omega)]
    omega
  by_cases q : En F N c < En F N v
  · have f1 := e.2.2.1 (En F N c) (by omega) q
    have r := T.spAt v (En F N c) h h2 (by omega) q (by omega)
    rw [cc] at r
    exact r.symm
  · have : En F N c = En F N v := by omega
    rw [this] at cc ⊢
    have t : Cc F N v = k + 1 := by
      rw [← cc]; unfold Cc; rw [show En F N v - v - 1 = En F N v - (v + 1) by omega]
    rw [T.spEnd v (k + 1) (by omega)]
/-- no children: nothing below -/
theorem TV.cc0 (T : TV N F G) (v : Int) (h : 0 ≤ v) (h2 : v < N) : (Cc F N v = 0 ↔ En F N v = v + 1) ∧ (Cc F N v = 0 ↔ Lf F v = true) := by
  have e := T.en v h h2
  have a : Cc F N v = 0 → En F N v = v + 1 := fun q => by
    by_cases z : v + 1 < En F N v
    · have := T.ccCnt v (v + 2) h h2 (by omega) (by omega)
      rw [show v + 2 = v + 1 + 1 by omega, cnt_one (by simpa [Ch] using T.first v h h2 z)] at this
      have := cnt_bd (Ch F v) (En F N v - (v + 1 + 1)).toNat (v + 1 + 1)
      omega
    · omega
  have b : En F N v = v + 1 → Lf F v = true := fun q => by
    rw [q] at e
    simpa [Lf] using e.2.2.2
  have c : Lf F v = true → Cc F N v = 0 := fun q => by
    have l : F (v + 1) ≤ F v := by simpa [Lf] using q
    have : En F N v = v + 1 := by
      by_cases z : v + 1 < En F N v
      · have := e.2.2.1 (v + 1) (by omega) z; omega
      · omega
    unfold Cc
    rw [this, show (v + 1 - v - 1).toNat = 0 by omega, cnt]
  exact ⟨⟨a, fun q => c (b q)⟩, ⟨fun q => b (a q), c⟩⟩
/-- place among the children: as many as stand before it -/
theorem Pl_cnt (F : Int → Int) (e v : Int) (h : F v < e) : ∀ (m k : Nat) (x : Int), x = v + m → m < k → (∀ y, v < y → y ≤ x → e ≤ F y) → Pl F e k x = cnt (fun y => decide (F y = e)) m (v + 1)
  | 0, k, x, hx, hk, _ => by
    obtain ⟨k, rfl⟩ : ∃ g, k = g + 1 := ⟨k - 1, by omega⟩
    have : x = v := by omega
    rw [Pl, this, if_pos h, cnt]
  | m + 1, k, x, hx, hk, hy => by
    obtain ⟨k, rfl⟩ : ∃ g, k = g + 1 := ⟨k - 1, by omega⟩
    have r := Pl_cnt F e v h m k (x - 1) (by omega) (by omega) (fun y g1 g2 => hy y g1 (by omega))
    have b := hy x (by omega) (by omega)
    have a := cnt_add (fun y => decide (F y = e)) m 1 (v + 1)
    rw [Pl, if_neg (by omega), r, a, show v + 1 + (m : Int) = x by omega, show (1 : Nat) = 0 + 1 from rfl, cnt, cnt]
    by_cases c : F x = e
    · rw [if_pos c, if_pos (by simpa using c)]; omega
    · rw [if_neg c, if_neg (by simpa using c)]; omega
theorem TV.plCh (T : TV N F G) (v c : Int) (h : 0 ≤ v) (h2 : v < N) (h3 : v < c) (h4 : c < En F N v) (hf : F c = F v + 1) : Pl F (F c) c.toNat (c - 1) = cnt (Ch F v) (c - (v + 1)).toNat (v + 1) := by
  have e := T.en v h h2
  have r := Pl_cnt F (F c) v (by omega) (c - (v + 1)).toNat c.toNat (c - 1) (by omega) (by omega) (fun y g1 g2 => by have := e.2.2.1 y g1 (by omega); omega)
  rw [r, hf]
  rfl
theorem TV.paCh (T : TV N F G) (v c : Int) (h : 0 ≤ v) (h2 : v < N) (h3 : v < c) (h4 : c < En F N v) (hf : F c = F v + 1) : Pa F c = v := by
  have e := T.en v h h2
  unfold Pa
  rw [if_neg (by omega)]
  exact T.upEq c (F c - 1) v h (by omega) (by omega) (fun y g1 g2 => by have := e.2.2.1 y g2 (by omega); omega)
/-- a node is a child of its parent -/
theorem TV.chPa (T : TV N F G) (v : Int) (h : 0 < v) (h2 : v < N) : 0 ≤ Pa F v ∧ Pa F v < v ∧ v < En F N (Pa F v) ∧ F v = F (Pa F v) + 1 := by
  obtain ⟨p1, p2, p3, p4⟩ := T.paSpec v h h2
  have e := T.en (Pa F v) p1 (by omega)
  refine ⟨p1, p2, ?_, by omega⟩
  by_cases q : En F N (Pa F v) ≤ v
  · have := p4 (En F N (Pa F v)) q (by omega)
    omega
  · omega
theorem TV.dpSpec (T : TV N F G) (v : Int) (h : 0 ≤ v) (h2 : v < N) : v ≤ Dp F N v ∧ Dp F N v < En F N v ∧ (∀ y, v ≤ y → y < En F N v → F y ≤ F (Dp F N v)) := by
  have e := T.en v h h2
  have key : ∀ (k : Nat) (x b : Int), F b ≤ F (Am F k x b) ∧ ∀ y, x ≤ y → y < x + k → F y ≤ F (Am F k x b) := by
    intro k
    induction k with
    | zero => intro x b; exact ⟨Int.le_refl _, fun y g1 g2 => absurd g2 (by omega)⟩
    | succ k ih =>
      intro x b
      rw [Am]
      by_cases c : F b < F x
      · rw [if_pos c]
        have r := ih (x + 1) x
        refine ⟨by omega, fun y g1 g2 => ?_⟩
        by_cases z : y = x
        · rw [z]; exact r.1
        · exact r.2 y (by omega) (by omega)
      · rw [if_neg c]
        have r := ih (x + 1) b
        refine ⟨r.1, fun y g1 g2 => ?_⟩
        by_cases z : y = x
        · rw [z]; omega
        · exact r.2 y (by omega) (by omega)
  have k := key (En F N v - v - 1).toNat (v + 1) v
  have a := Am_in (F := F) (En F N v - v - 1).toNat (v + 1) v
  unfold Dp
  refine ⟨by omega, by omega, fun y g1 g2 => ?_⟩
  by_cases z : y = v
  · rw [z]; exact k.1
  · exact k.2 y (by omega) (by omega)
/-- brothers -/
theorem TV.nxCh (T : TV N F G) (v k : Int) (h : 0 ≤ v) (h2 : v < N) (hk : 0 ≤ k) (hk2 : k < Cc F N v) : Nx F N (Sp F N v k) = if k + 1 = Cc F N v then -5 else Sp F N v (k + 1) := by
  have e := T.en v h h2
  have n := T.spNext v k h h2 hk hk2
  obtain ⟨s1, s2, s3, s4⟩ := T.spIn v k h h2 hk hk2
  unfold Nx
  rw [n]
  by_cases q : k + 1 = Cc F N v
  · rw [if_pos q, T.spEnd v (k + 1) (by omega), if_neg (by omega)]
  · obtain ⟨t1, t2, t3, t4⟩ := T.spIn v (k + 1) h h2 (by omega) (by omega)
    rw [if_neg q, if_pos ⟨by omega, by omega⟩]
theorem TV.sbCh (T : TV N F G) (v k : Int) (h : 0 ≤ v) (h2 : v < N) (hk : 0 ≤ k) (hk2 : k < Cc F N v) : Sb F (Sp F N v k) = if k = 0 then -5 else Sp F N v (k - 1) := by
  have e := T.en v h h2
  obtain ⟨s1, s2, s3, s4⟩ := T.spIn v k h h2 hk hk2
  unfold Sb
  by_cases q : k = 0
  · have c0 : Sp F N v k = v + 1 := by rw [q]; exact T.sp0 v h h2
    have lo : Lo F (F (Sp F N v k)) (Sp F N v k - 1) = v := by
      rw [s3, c0]
      unfold Lo
      rw [show v + 1 - 1 = v by omega, show (v + 1).toNat = v.toNat + 1 by omega]
      exact dwn_yes (by simp; omega)
    rw [if_pos q, lo, if_neg (by omega)]
  · obtain ⟨t1, t2, t3, t4⟩ := T.spIn v (k - 1) h h2 (by omega) (by omega)
    have n := T.spNext v (k - 1) h h2 (by omega) (by omega)
    rw [show k - 1 + 1 = k by omega] at n
    have ep := T.en (Sp F N v (k - 1)) (by omega) (by omega)
    rw [n] at ep
    have lo : Lo F (F (Sp F N v k)) (Sp F N v k - 1) = Sp F N v (k - 1) := by
      unfold Lo
      exact dwn_eq _ _ _ _ (by omega) (by omega) (fun y g1 g2 => by have := ep.2.2.1 y g2 (by omega); simp only [decide_eq_false_iff_not]; omega) (fun _ => by simp only [decide_eq_true_eq]; omega)
    rw [if_neg q, lo, if_pos ⟨by omega, by omega⟩]
end CHAIN
