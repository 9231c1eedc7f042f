/-! 55: what becomes of sizes, children and places where a tree is edited -/
section SHAPE
variable {N : Int} {F G : Int → Int}
/-- as many children stand before the k-th as k says -/
theorem TV.spCnt (T : TV N F G) (v k : Int) (h : 0 ≤ v) (h2 : v < N) (hk : 0 ≤ k) (hk2 : k ≤ Cc F N v) : cnt (Ch F v) (Sp F N v k - (v + 1)).toNat (v + 1) = k := by
  by_cases c : k < Cc F N v
  · exact (T.spIn v k h h2 hk c).2.2.2
  · have e : k = Cc F N v := by omega
    rw [T.spEnd v k (by omega), e]
    unfold Cc
    rw [show En F N v - v - 1 = En F N v - (v + 1) by omega]
theorem dec_cong {p q : Prop} [Decidable p] [Decidable q] (h : p ↔ q) : decide p = decide q := by
  by_cases c : p
  · rw [decide_eq_true c, decide_eq_true (h.mp c)]
  · rw [decide_eq_false c, decide_eq_false (fun z => c (h.mpr z))]
/-- wrapping -/
theorem TV.wrapShape (T : TV N F G) (v a c g : Int) (hv : 0 ≤ v) (hv2 : v < N) (ha : 0 ≤ a) (hc : 0 ≤ c) (hac : a + c ≤ Cc F N v) (s e : Int) (hs : s = Sp F N v a) (he : e = Sp F N v (a + c)) (T' : TV (N + 1) (wrF F v s e) (wrG G s g)) : v < s ∧ s < N + 1 ∧ Pa (wrF F v s e) s = v ∧ Cc (wrF F v s e) (N + 1) s = c ∧ Pl (wrF F v s e) (wrF F v s e s) s.toNat (s - 1) = a ∧ Cc (wrF F v s e) (N + 1) v = Cc F N v - c + 1 ∧ wrG G s g s = g := by
  have en := T.en v hv hv2
  have s1 := T.sp v a hv hv2
  have s2 := T.sp v (a + c) hv hv2
  have sm := T.spMono v a c hv hv2 ha hc
  have ca := T.spCnt v a hv hv2 ha (by omega)
  have cc := T.spCnt v (a + c) hv hv2 (by omega) hac
  rw [← hs] at s1 sm ca
  rw [← he] at s2 sm cc
  have fl : ∀ y, y < s → wrF F v s e y = F y := fun y q => by unfold wrF; rw [if_pos q]
  have fs : wrF F v s e s = F v + 1 := by unfold wrF; rw [if_neg (by omega), if_pos rfl]
  have fm : ∀ y, s < y → y ≤ e → wrF F v s e y = F (y - 1) + 1 := fun y q1 q2 => by unfold wrF; rw [if_neg (by omega), if_neg (by omega), if_pos q2]
  have fr : ∀ y, s < y → e < y → wrF F v s e y = F (y - 1) := fun y q1 q2 => by unfold wrF; rw [if_neg (by omega), if_neg (by omega), if_neg (by omega)]
  have fv := fl v s1.1
  have es : En (wrF F v s e) (N + 1) s = e + 1 := by
    refine T'.enEq s (e + 1) (by omega) (by omega) (by omega) (by omega) (fun y g1 g2 => ?_) ?_
    · have := en.2.2.1 (y - 1) (by omega) (by omega)
      rw [fs, fm y g1 (by omega)]
      omega
    · rw [fs, fr (e + 1) (by omega) (by omega), show e + 1 - 1 = e by omega]
      exact s2.2.2.2
  have ev : En (wrF F v s e) (N + 1) v = En F N v + 1 := by
    refine T'.enEq v (En F N v + 1) hv (by omega) (by omega) (by omega) (fun y g1 g2 => ?_) ?_
    · rw [fv]
      by_cases q : y < s
      · rw [fl y q]; exact en.2.2.1 y g1 (by omega)
      · by_cases q2 : y = s
        · rw [q2, fs]; omega
        · have := en.2.2.1 (y - 1) (by omega) (by omega)
          by_cases q3 : y ≤ e
          · rw [fm y (by omega) q3]; omega
          · rw [fr y (by omega) (by omega)]; exact this
    · rw [fv, fr (En F N v + 1) (by omega) (by omega), show En F N v + 1 - 1 = En F N v by omega]
      exact en.2.2.2
  have c1 : cnt (Ch (wrF F v s e) v) (s - (v + 1)).toNat (v + 1) = a := by
    rw [← ca]
    exact cnt_cong _ _ (fun y g1 g2 => dec_cong (by rw [fl y (by omega), fv]))
  have mid := cnt_mid (Ch F v) (v + 1) s e (by omega) sm
  refine ⟨s1.1, by omega, T'.paCh v s hv (by omega) s1.1 (by omega) (by rw [fs, fv]), ?_, ?_, ?_, ?_⟩
  · unfold Cc
    rw [es, show e + 1 - s - 1 = e - s by omega, cnt_shift (Ch (wrF F v s e) s) (Ch F v) (-1) (e - s).toNat (s + 1) (fun y g1 g2 => dec_cong (by rw [fs, fm y (by omega) (by omega), show y + -1 = y - 1 by omega]; omega)), show s + 1 + -1 = s by omega]
    omega
  · rw [T'.plCh v s hv (by omega) s1.1 (by omega) (by rw [fs, fv])]
    exact c1
  · rw [T'.ccCnt v s hv (by omega) s1.1 (by omega), c1, ev, cnt_mid _ s (s + 1) (En F N v + 1) (by omega) (by omega), cnt_one (by simp only [Ch, decide_eq_true_eq]; rw [fs, fv]), cnt_mid _ (s + 1) (e + 1) (En F N v + 1) (by omega) (by omega), cnt_zero (p := Ch (wrF F v s e) v) (e + 1 - (s + 1)).toNat (s + 1) (fun y g1 g2 => by
      have := en.2.2.1 (y - 1) (by omega) (by omega)
      simp only [Ch, decide_eq_false_iff_not]
      rw [fv, fm y (by omega) (by omega)]
      omega), cnt_shift (Ch (wrF F v s e) v) (Ch F v) (-1) (En F N v + 1 - (e + 1)).toNat (e + 1) (fun y g1 g2 => dec_cong (by rw [fv, fr y (by omega) (by omega), show y + -1 = y - 1 by omega])), show e + 1 + -1 = e by omega, show En F N v + 1 - (e + 1) = En F N v - e by omega]
    have := T.ccCnt v e hv hv2 (by omega) (by omega)
    omega
  · unfold wrG; rw [if_neg (by omega), if_pos rfl]
/-- removal of one node -/
theorem TV.remShape (T : TV N F G) (v p : Int) (hv : 0 < v) (hv2 : v < N) (hp : p = Pa F v) (T' : TV (N - 1) (reF F v (En F N v)) (cuF G v 1)) : Cc (reF F v (En F N v)) (N - 1) p = Cc F N p - 1 + Cc F N v := by
  have en := T.en v (by omega) hv2
  obtain ⟨p1, p2, p3, p4⟩ := T.chPa v hv hv2
  rw [← hp] at p1 p2 p3 p4
  have ep := T.en p p1 (by omega)
  have ei := T.enIn p v p1 (by omega) p2 p3
  obtain ⟨e, he⟩ : ∃ e, e = En F N v := ⟨_, rfl⟩
  rw [← he] at en ei T' ⊢
  have fl : ∀ y, y < v → reF F v e y = F y := fun y q => by unfold reF; rw [if_pos q]
  have fm : ∀ y, v ≤ y → y + 1 < e → reF F v e y = F (y + 1) - 1 := fun y q1 q2 => by unfold reF; rw [if_neg (by omega), if_pos q2]
  have fr : ∀ y, v ≤ y → e ≤ y + 1 → reF F v e y = F (y + 1) := fun y q1 q2 => by unfold reF; rw [if_neg (by omega), if_neg (by omega)]
  have fp := fl p p2
  have ep' : En (reF F v e) (N - 1) p = En F N p - 1 := by
    refine T'.enEq p (En F N p - 1) p1 (by omega) (by omega) (by omega) (fun y g1 g2 => ?_) ?_
    · rw [fp]
      by_cases q : y < v
      · rw [fl y q]; exact ep.2.2.1 y g1 (by omega)
      · by_cases q2 : y + 1 < e
        · have := en.2.2.1 (y + 1) (by omega) q2
          rw [fm y (by omega) q2]; omega
        · rw [fr y (by omega) (by omega)]; exact ep.2.2.1 (y + 1) (by omega) (by omega)
    · rw [fp, fr (En F N p - 1) (by omega) (by omega), show En F N p - 1 + 1 = En F N p by omega]
      exact ep.2.2.2
  have mid := T.ccCnt p v p1 (by omega) p2 (by omega)
  rw [cnt_mid (Ch F p) v (v + 1) (En F N p) (by omega) (by omega), cnt_one (by simp only [Ch, decide_eq_true_eq]; exact p4), cnt_mid (Ch F p) (v + 1) e (En F N p) (by omega) ei, cnt_zero (p := Ch F p) (e - (v + 1)).toNat (v + 1) (fun y g1 g2 => by
    have := en.2.2.1 y (by omega) (by omega)
    simp only [Ch, decide_eq_false_iff_not]
    omega)] at mid
  by_cases q : v = En F N p - 1
  · -- the last below its parent, and a leaf
    have ve : e = v + 1 := by omega
    have c0 : Cc F N v = 0 := by unfold Cc; rw [← he, ve, show (v + 1 - v - 1).toNat = 0 by omega, cnt]
    have : Cc (reF F v e) (N - 1) p = cnt (Ch F p) (v - (p + 1)).toNat (p + 1) := by
      unfold Cc
      rw [ep', show En F N p - 1 - p - 1 = v - (p + 1) by omega]
      exact cnt_cong _ _ (fun y g1 g2 => dec_cong (by rw [fp, fl y (by omega)]))
    rw [this, c0]
    rw [show En F N p - e = 0 by omega, show (0 : Int).toNat = 0 from rfl] at mid
    simp only [cnt] at mid
    omega
  · have r := T'.ccCnt p v p1 (by omega) p2 (by omega)
    rw [ep', cnt_cong (p := Ch (reF F v e) p) (q := Ch F p) (v - (p + 1)).toNat (p + 1) (fun y g1 g2 => dec_cong (by rw [fp, fl y (by omega)])), cnt_mid _ v (e - 1) (En F N p - 1) (by omega) (by omega), cnt_shift (Ch (reF F v e) p) (Ch F v) 1 (e - 1 - v).toNat v (fun y g1 g2 => dec_cong (by rw [fp, fm y g1 (by omega)]; omega)), cnt_shift (Ch (reF F v e) p) (Ch F p) 1 (En F N p - 1 - (e - 1)).toNat (e - 1) (fun y g1 g2 => dec_cong (by rw [fp, fr y (by omega) (by omega)])), show e - 1 + 1 = e by omega, show En F N p - 1 - (e - 1) = En F N p - e by omega] at r
    have cv : Cc F N v = cnt (Ch F v) (e - 1 - v).toNat (v + 1) := by
      unfold Cc; rw [← he, show e - v - 1 = e - 1 - v by omega]
    omega
/-- where a subtree went out: the children of what stays -/
theorem TV.cutShape (T : TV N F G) (v w m t : Int) (hv : 0 < v) (hv2 : v < N) (hw : 0 ≤ w) (hw2 : w < N) (hnot : ¬ (v ≤ w ∧ w < En F N v)) (hm : m = En F N v - v) (ht : t = if w < v then w else w - m) (T1 : TV (N - m) (cuF F v m) (cuF G v m)) : Cc (cuF F v m) (N - m) t = Cc F N w - ofs F v w := by
  have en := T.en v (by omega) hv2
  have ew := T.en w hw hw2
  have fl : ∀ y, y < v → cuF F v m y = F y := fun y q => by unfold cuF; rw [if_pos q]
  have fr : ∀ y, v ≤ y → cuF F v m y = F (y + m) := fun y q => by unfold cuF; rw [if_neg (by omega)]
  have pa := T.chPa v hv hv2
  by_cases lt : w < v
  · rw [if_pos lt] at ht
    subst ht
    have fw := fl t lt
    by_cases inn : v < En F N t
    · have ei := T.enIn t v hw hw2 lt inn
      have e1 : En (cuF F v m) (N - m) t = En F N t - m := by
        refine T1.enEq t (En F N t - m) hw (by omega) (by omega) (by omega) (fun y g1 g2 => ?_) ?_
        · rw [fw]
          by_cases q : y < v
          · rw [fl y q]; exact ew.2.2.1 y g1 (by omega)
          · rw [fr y (by omega)]; exact ew.2.2.1 (y + m) (by omega) (by omega)
        · rw [fw, fr _ (by omega), show En F N t - m + m = En F N t by omega]
          exact ew.2.2.2
      have fvw := ew.2.2.1 v lt inn
      have of : ofs F v t = cnt (Ch F t) (v + 1 - v).toNat v := by
        unfold ofs
        by_cases q : F v = F t + 1
        · rw [if_pos (T.paCh t v hw hw2 lt inn q), cnt_one (by simp only [Ch, decide_eq_true_eq]; exact q)]
        · rw [if_neg (fun z => q (by rw [← z]; exact pa.2.2.2)), cnt_oneNo (by simp only [Ch, decide_eq_true_eq]; exact q)]
      have mid := T.ccCnt t v hw hw2 lt (by omega)
      rw [cnt_mid (Ch F t) v (v + 1) (En F N t) (by omega) (by omega), cnt_mid (Ch F t) (v + 1) (v + m) (En F N t) (by omega) (by omega), cnt_zero (p := Ch F t) (v + m - (v + 1)).toNat (v + 1) (fun y g1 g2 => by
        have := en.2.2.1 y (by omega) (by omega)
        simp only [Ch, decide_eq_false_iff_not]
        omega), ← of] at mid
      have r : Cc (cuF F v m) (N - m) t = cnt (Ch (cuF F v m) t) (v - (t + 1)).toNat (t + 1) + cnt (Ch (cuF F v m) t) (En F N t - m - v).toNat v := by
        have := cnt_mid (Ch (cuF F v m) t) (t + 1) v (En F N t - m) (by omega) (by omega)
        unfold Cc
        rw [e1, show En F N t - m - t - 1 = En F N t - m - (t + 1) by omega]
        exact this
      rw [cnt_cong (p := Ch (cuF F v m) t) (q := Ch F t) (v - (t + 1)).toNat (t + 1) (fun y g1 g2 => dec_cong (by rw [fw, fl y (by omega)])), cnt_shift (Ch (cuF F v m) t) (Ch F t) m (En F N t - m - v).toNat v (fun y g1 g2 => dec_cong (by rw [fw, fr y g1])), show En F N t - m - v = En F N t - (v + m) by omega] at r
      omega
    · have e1 : En (cuF F v m) (N - m) t = En F N t := by
        refine T1.enEq t (En F N t) hw (by omega) ew.1 (by omega) (fun y g1 g2 => ?_) ?_
        · rw [fw, fl y (by omega)]; exact ew.2.2.1 y g1 g2
        · rw [fw]
          by_cases q : En F N t < v
          · rw [fl _ q]; exact ew.2.2.2
          · have e2 : En F N t = v := by omega
            rw [e2, fr v (Int.le_refl _), show v + m = En F N v by omega]
            have a := ew.2.2.2
            have b := en.2.2.2
            rw [e2] at a
            omega
      have of : ofs F v t = 0 := by
        unfold ofs
        rw [if_neg (fun z => by rw [z] at pa; omega)]
      rw [of]
      unfold Cc
      rw [e1, cnt_cong (p := Ch (cuF F v m) t) (q := Ch F t) (En F N t - t - 1).toNat (t + 1) (fun y g1 g2 => dec_cong (by rw [fw, fl y (by omega)]))]
      omega
  · rw [if_neg lt] at ht
    have ge : En F N v ≤ w := by omega
    have fw : cuF F v m t = F w := by rw [fr t (by omega), ht, show w - m + m = w by omega]
    have e1 : En (cuF F v m) (N - m) t = En F N w - m := by
      refine T1.enEq t (En F N w - m) (by omega) (by omega) (by omega) (by omega) (fun y g1 g2 => ?_) ?_
      · rw [fw, fr y (by omega)]; exact ew.2.2.1 (y + m) (by omega) (by omega)
      · rw [fw, fr _ (by omega), show En F N w - m + m = En F N w by omega]
        exact ew.2.2.2
    have of : ofs F v w = 0 := by
      unfold ofs
      rw [if_neg (fun z => by omega)]
    rw [of]
    unfold Cc
    rw [e1, show En F N w - m - t - 1 = En F N w - w - 1 by omega, cnt_shift (Ch (cuF F v m) t) (Ch F w) m (En F N w - w - 1).toNat (t + 1) (fun y g1 g2 => dec_cong (by rw [fw, fr y (by omega)])), show t + 1 + m = w + 1 by omega]
    omega
/-- where it came in again -/
theorem TV.insShape (T1 : TV N F G) (t s m k : Int) (R L : Int → Int) (ht : 0 ≤ t) (ht2 : t < N) (hk : 0 ≤ k) (hk2 : k ≤ Cc F N t) (hs : s = Sp F N t k) (hm : 1 ≤ m) (hR : R 0 = F t + 1) (hR2 : ∀ i, 0 < i → i < m → F t + 1 < R i) (T2 : TV (N + m) (inF F R s m) (inF G L s m)) : t < s ∧ En (inF F R s m) (N + m) s = s + m ∧ Pa (inF F R s m) s = t ∧ Pl (inF F R s m) (inF F R s m s) s.toNat (s - 1) = k ∧ Cc (inF F R s m) (N + m) t = Cc F N t + 1 ∧ ∀ i, 0 ≤ i → i < m → inF F R s m (s + i) = R i := by
  have en := T1.en t ht ht2
  have s1 := T1.sp t k ht ht2
  have cs := T1.spCnt t k ht ht2 hk hk2
  rw [← hs] at s1 cs
  have fl : ∀ y, y < s → inF F R s m y = F y := fun y q => by unfold inF; rw [if_pos q]
  have fm : ∀ y, s ≤ y → y < s + m → inF F R s m y = R (y - s) := fun y q1 q2 => by unfold inF; rw [if_neg (by omega), if_pos q2]
  have fr : ∀ y, s + m ≤ y → inF F R s m y = F (y - m) := fun y q1 => by unfold inF; rw [if_neg (by omega), if_neg (by omega)]
  have ft := fl t s1.1
  have fs : inF F R s m s = F t + 1 := by rw [fm s (Int.le_refl _) (by omega), show s - s = 0 by omega, hR]
  have es : En (inF F R s m) (N + m) s = s + m := by
    refine T2.enEq s (s + m) (by omega) (by omega) (by omega) (by omega) (fun y g1 g2 => ?_) ?_
    · rw [fs, fm y (by omega) g2]; exact hR2 (y - s) (by omega) (by omega)
    · rw [fs, fr (s + m) (Int.le_refl _), show s + m - m = s by omega]; exact s1.2.2.2
  have et : En (inF F R s m) (N + m) t = En F N t + m := by
    refine T2.enEq t (En F N t + m) ht (by omega) (by omega) (by omega) (fun y g1 g2 => ?_) ?_
    · rw [ft]
      by_cases q : y < s
      · rw [fl y q]; exact en.2.2.1 y g1 (by omega)
      · by_cases q2 : y < s + m
        · rw [fm y (by omega) q2]
          by_cases q3 : y = s
          · rw [q3, show s - s = 0 by omega, hR]; omega
          · have := hR2 (y - s) (by omega) (by omega); omega
        · rw [fr y (by omega)]; exact en.2.2.1 (y - m) (by omega) (by omega)
    · rw [ft, fr _ (by omega), show En F N t + m - m = En F N t by omega]
      exact en.2.2.2
  have c1 : cnt (Ch (inF F R s m) t) (s - (t + 1)).toNat (t + 1) = k := by
    rw [← cs]
    exact cnt_cong _ _ (fun y g1 g2 => dec_cong (by rw [ft, fl y (by omega)]))
  refine ⟨s1.1, es, T2.paCh t s ht (by omega) s1.1 (by omega) (by rw [fs, ft]), ?_, ?_, fun i i1 i2 => by rw [fm (s + i) (by omega) (by omega), show s + i - s = i by omega]⟩
  · rw [T2.plCh t s ht (by omega) s1.1 (by omega) (by rw [fs, ft])]
    exact c1
  · rw [T2.ccCnt t s ht (by omega) s1.1 (by omega), c1, et, cnt_mid _ s (s + 1) (En F N t + m) (by omega) (by omega), cnt_one (by simp only [Ch, decide_eq_true_eq]; rw [fs, ft]), cnt_mid _ (s + 1) (s + m) (En F N t + m) (by omega) (by omega), cnt_zero (p := Ch (inF F R s m) t) (s + m - (s + 1)).toNat (s + 1) (fun y g1 g2 => by
      have := hR2 (y - s) (by omega) (by omega)
      simp only [Ch, decide_eq_false_iff_not]
      rw [ft, fm y (by omega) (by omega)]
      omega), cnt_shift (Ch (inF F R s m) t) (Ch F t) (-m) (En F N t + m - (s + m)).toNat (s + m) (fun y g1 g2 => dec_cong (by rw [ft, fr y g1, show y + -m = y - m by omega])), show s + m + -m = s by omega, show En F N t + m - (s + m) = En F N t - s by omega]
    have := T1.ccCnt t s ht ht2 s1.1 s1.2.1
    omega
end SHAPE
